theorem znX6_vector_X6 : ∀ w ∈ wsX60, w ∈ wsX6_vector := fun _ h => List.mem_cons_of_mem _ (List.mem_append_right _ h)
theorem zdX6_vector : yX6_vector.cls ≠ "java/lang/invoke/MethodHandle" ∧ yX6_vector.cls ≠ "java/lang/invoke/VarHandle" ∧ (parseMethodDescriptor yX6_vector.desc).map (fun d => d.parameters.length) = some 2 := by decide +kernel
-- MixingRelaysModel vector(II)I
section
variable {p : Program} {l : Launch} {e : Env} {s : State} {m : MethodId} {args : Array Value} {below : List Frame} {meth : Method} {c : Code} {Q : State → Prop} {G : zG} {O : zM}
def pX6_vector_b22 (post : Int32 → zM → Prop) (M : zM) : Prop :=
  post (-1 : Int32) M
set_option maxHeartbeats 4000000 in
set_option maxRecDepth 100000 in
theorem wX6_vector_b22 {post : Int32 → zM → Prop}  (hF : CallFix p m c cX6_vector 3 s args wsX6_vector RX6) (hSt : zSt G s) (hret : zRi p l e ({ frames := 4, cells := 0, slots := 0, locals := 97 } : Room) s m args below meth c Q cX6_vector G false O post) (M : zM) (H : Heap) (locs : List Loc) (ls : Array Slot) (hH : zH G false s H locs M O) (hl : lv_has ls 3 []) (h : pX6_vector_b22 post M) : W p l e ({ frames := 4, cells := 0, slots := 0, locals := 97 } : Room) s m args below meth c H locs 0 0 Q (F0 m 22 ls []) := by
  obtain ⟨hx, hb, hml, hown, hts⟩ := id hF
  unfold pX6_vector_b22 at h
  refine lv_iconst (v := (-1 : Int32)) hx hb dX6_vector_22 (by decide) ?_
  exact hret _ _ _ _ _ _ dX6_vector_23 h hH
def pX6_vector (M : zM) (x1 : Int32) (x2 : Int32) (post : Int32 → zM → Prop) : Prop :=
  pX6_isLine M x1 (fun r2 => (r2 = 0 → pX6_vector_b22 post M) ∧ (¬ (r2 = 0) → pX6_in x2 (0 : Int32) ((M.1 21 3) - (1 : Int32)) (fun r16 => (¬ (r16 = 0) → pX6_work M  (fun M25 => vp_in (((4 : Int32) * x1) + x2) 120 ∧ post (M25.1 33 ((((4 : Int32) * x1) + x2)).toNatClampNeg) M25)) ∧ (r16 = 0 → pX6_vector_b22 post M))))
set_option maxHeartbeats 4000000 in
set_option maxRecDepth 100000 in
theorem wX6_vector {M : zM} {post : Int32 → zM → Prop} (hF : CallFix p m c cX6_vector 3 s args wsX6_vector RX6) (hSt : zSt G s) (hret : zRi p l e ({ frames := 4, cells := 0, slots := 0, locals := 97 } : Room) s m args below meth c Q cX6_vector G false O post) (x1 : Int32) (x2 : Int32) (H : Heap) (locs : List Loc) (ls : Array Slot) (hH : zH G false s H locs M O) (hl : lv_has ls 3 [(0, .ref (G.1 21)), (1, .int x1), (2, .int x2)]) (h : pX6_vector M x1 x2 post) : W p l e ({ frames := 4, cells := 0, slots := 0, locals := 97 } : Room) s m args below meth c H locs 0 0 Q (F0 m 0 ls []) := by
  obtain ⟨hx, hb, hml, hown, hts⟩ := id hF
  unfold pX6_vector at h
  refine lv_aload_n hx hb dX6_vector_0 rfl (lv_at hl 0 rfl) ?_
  refine lv_iload_n hx hb dX6_vector_1 rfl (lv_at hl 1 rfl) ?_
  refine zcalliP hH (va_runV (As := [.int x1]) (rest := []) hF (kX6_isLine l G M O x1 _ h) (cwV 1 hts gX6_vector_X6_isLine rfl rfl rfl ⟨rfl, zdX6_isLine⟩ ⟨Nat.le_of_ble_eq_true rfl, Nat.le_of_ble_eq_true rfl⟩) (zpreV hSt hH 21 (by decide) rfl (zE_21 _ _ _) (q := (RX6, TX6, 31)) rfl [.int x1]) rfl rfl hl.1 rfl (lv_room (Nat.le_of_ble_eq_true rfl)) dX6_vector_2 ⟨Nat.zero_le _, Nat.zero_le _⟩) (fun r2 H locs h hH => ?_)
  refine lv_if_eq (tgt := 22) hx hb dX6_vector_5 (by decide) (fun q5 => ?_) (fun q5 => ?_)
  · have h := h.1 q5
    exact wX6_vector_b22 hF hSt hret M H locs ls hH (lv_sub hl [] rfl) h
  · have h := h.2 q5
    refine lv_iload_n hx hb dX6_vector_8 rfl (lv_at hl 2 rfl) ?_
    refine lv_iconst (v := (0 : Int32)) hx hb dX6_vector_9 (by decide) ?_
    refine lv_aload_n hx hb dX6_vector_10 rfl (lv_at hl 0 rfl) ?_
    refine zget (v := .int (M.1 21 3)) hF hSt hH 21 (by decide) rfl (zE_21 _ _ _) (C := RX6) (T := TX6) (N := 31) rfl znX6_vector_X6 3 (by decide) (List.mem_of_getElem? (i := 1) rfl) rfl dX6_vector_11 ?_
    refine lv_iconst (v := (1 : Int32)) hx hb dX6_vector_14 (by decide) ?_
    refine lv_isub hx hb dX6_vector_15 ?_
    refine zcalliP hH (va_runS (As := [.int x2, .int (0 : Int32), .int ((M.1 21 3) - (1 : Int32))]) (rest := []) hF (kX6_in l G M O x2 (0 : Int32) ((M.1 21 3) - (1 : Int32)) _ h) (va_cwS 3 hts gX6_vector_X6_in rfl rfl rfl zdX6_in ⟨Nat.le_of_ble_eq_true rfl, Nat.le_of_ble_eq_true rfl⟩) (zpreS hSt hH [.int x2, .int (0 : Int32), .int ((M.1 21 3) - (1 : Int32))]) rfl rfl hl.1 rfl (lv_room (Nat.le_of_ble_eq_true rfl)) dX6_vector_16 ⟨Nat.zero_le _, Nat.zero_le _⟩) (fun r16 H locs h hH => ?_)
    refine lv_if_ne (tgt := 24) hx hb dX6_vector_19 (by decide) (fun q19 => ?_) (fun q19 => ?_)
    · have h := h.1 q19
      refine lv_aload_n hx hb dX6_vector_24 rfl (lv_at hl 0 rfl) ?_
      refine zcallv hH (va_runV (As := []) (rest := []) hF (kX6_work l G M O _ h) (cwV 0 hts gX6_vector_X6_work rfl rfl rfl ⟨rfl, zdX6_work⟩ ⟨Nat.le_of_ble_eq_true rfl, Nat.le_of_ble_eq_true rfl⟩) (zpreV hSt hH 21 (by decide) rfl (zE_21 _ _ _) (q := (RX6, TX6, 31)) rfl []) rfl rfl hl.1 rfl (lv_room (Nat.le_of_ble_eq_true rfl)) dX6_vector_25 ⟨Nat.zero_le _, Nat.zero_le _⟩) (fun M25 H locs h hH => ?_)
      refine lv_aload_n hx hb dX6_vector_28 rfl (lv_at hl 0 rfl) ?_
      refine zget (v := .ref (G.1 33)) hF hSt hH 21 (by decide) rfl (zE_21 _ _ _) (C := RX6) (T := TX6) (N := 31) rfl znX6_vector_X6 15 (by decide) (List.mem_of_getElem? (i := 2) rfl) rfl dX6_vector_29 ?_
      refine lv_iconst (v := (4 : Int32)) hx hb dX6_vector_32 (by decide) ?_
      refine lv_iload_n hx hb dX6_vector_33 rfl (lv_at hl 1 rfl) ?_
      refine lv_imul hx hb dX6_vector_34 ?_
      refine lv_iload_n hx hb dX6_vector_35 rfl (lv_at hl 2 rfl) ?_
      refine lv_iadd hx hb dX6_vector_36 ?_
      obtain ⟨q37, h⟩ := h
      refine zald hF hSt hH 33 (by decide) rfl (zE_33 _ _ _) q37 dX6_vector_37 ?_
      exact hret _ _ _ _ _ _ dX6_vector_38 h hH
    · have h := h.2 q19
      exact wX6_vector_b22 hF hSt hret M H locs ls hH (lv_sub hl [] rfl) h
set_option maxRecDepth 100000 in
theorem kX6_vector (l : Launch) (G : zG) (M O : zM) (x1 : Int32) (x2 : Int32) (post : Int32 → zM → Prop) (h : pX6_vector M x1 x2 post) : Met l yX6_vector wsX6_vector ({ frames := 4, cells := 0, slots := 0, locals := 97 } : Room) (zPc G false M O [.ref (G.1 21), .int x1, .int x2]) (va_Qi post (zB G false O) (zAA G)) 0 0 (zAA G) :=
  zmet_i (by decide) rfl (Nat.le_of_ble_eq_true rfl) (fun hF hSt hret H locs ls hH hl => wX6_vector hF hSt hret x1 x2 H locs ls hH hl h)
end
theorem znX6_carries_X6 : ∀ w ∈ wsX60, w ∈ wsX6_carries := fun _ h => List.mem_cons_of_mem _ (List.mem_append_right _ h)
theorem zdX6_carries : yX6_carries.cls ≠ "java/lang/invoke/MethodHandle" ∧ yX6_carries.cls ≠ "java/lang/invoke/VarHandle" ∧ (parseMethodDescriptor yX6_carries.desc).map (fun d => d.parameters.length) = some 1 := by decide +kernel
-- MixingRelaysModel carries(I)J
section
variable {p : Program} {l : Launch} {e : Env} {s : State} {m : MethodId} {args : Array Value} {below : List Frame} {meth : Method} {c : Code} {Q : State → Prop} {G : zG} {O : zM}
def pX6_carries (M : zM) (x1 : Int32) (post : Int64 → zM → Prop) : Prop :=
  pX6_isLine M x1 (fun r2 => (¬ (r2 = 0) → pX6_work M  (fun M11 => vp_in x1 30 ∧ post (M11.2 34 x1.toNatClampNeg) M11)) ∧ (r2 = 0 → post (0 : Int64) M))
set_option maxHeartbeats 4000000 in
set_option maxRecDepth 100000 in
theorem wX6_carries {M : zM} {post : Int64 → zM → Prop} (hF : CallFix p m c cX6_carries 2 s args wsX6_carries RX6) (hSt : zSt G s) (hret : zRl p l e ({ frames := 4, cells := 0, slots := 0, locals := 97 } : Room) s m args below meth c Q cX6_carries G false O post) (x1 : Int32) (H : Heap) (locs : List Loc) (ls : Array Slot) (hH : zH G false s H locs M O) (hl : lv_has ls 2 [(0, .ref (G.1 21)), (1, .int x1)]) (h : pX6_carries M x1 post) : W p l e ({ frames := 4, cells := 0, slots := 0, locals := 97 } : Room) s m args below meth c H locs 0 0 Q (F0 m 0 ls []) := by
  obtain ⟨hx, hb, hml, hown, hts⟩ := id hF
  unfold pX6_carries at h
  refine lv_aload_n hx hb dX6_carries_0 rfl (lv_at hl 0 rfl) ?_
  refine lv_iload_n hx hb dX6_carries_1 rfl (lv_at hl 1 rfl) ?_
  refine zcalliP hH (va_runV (As := [.int x1]) (rest := []) hF (kX6_isLine l G M O x1 _ h) (cwV 1 hts gX6_carries_X6_isLine rfl rfl rfl ⟨rfl, zdX6_isLine⟩ ⟨Nat.le_of_ble_eq_true rfl, Nat.le_of_ble_eq_true rfl⟩) (zpreV hSt hH 21 (by decide) rfl (zE_21 _ _ _) (q := (RX6, TX6, 31)) rfl [.int x1]) rfl rfl hl.1 rfl (lv_room (Nat.le_of_ble_eq_true rfl)) dX6_carries_2 ⟨Nat.zero_le _, Nat.zero_le _⟩) (fun r2 H locs h hH => ?_)
  refine lv_if_ne (tgt := 10) hx hb dX6_carries_5 (by decide) (fun q5 => ?_) (fun q5 => ?_)
  · have h := h.1 q5
    refine lv_aload_n hx hb dX6_carries_10 rfl (lv_at hl 0 rfl) ?_
    refine zcallv hH (va_runV (As := []) (rest := []) hF (kX6_work l G M O _ h) (cwV 0 hts gX6_carries_X6_work rfl rfl rfl ⟨rfl, zdX6_work⟩ ⟨Nat.le_of_ble_eq_true rfl, Nat.le_of_ble_eq_true rfl⟩) (zpreV hSt hH 21 (by decide) rfl (zE_21 _ _ _) (q := (RX6, TX6, 31)) rfl []) rfl rfl hl.1 rfl (lv_room (Nat.le_of_ble_eq_true rfl)) dX6_carries_11 ⟨Nat.zero_le _, Nat.zero_le _⟩) (fun M11 H locs h hH => ?_)
    refine lv_aload_n hx hb dX6_carries_14 rfl (lv_at hl 0 rfl) ?_
    refine zget (v := .ref (G.1 34)) hF hSt hH 21 (by decide) rfl (zE_21 _ _ _) (C := RX6) (T := TX6) (N := 31) rfl znX6_carries_X6 16 (by decide) (List.mem_of_getElem? (i := 1) rfl) rfl dX6_carries_15 ?_
    refine lv_iload_n hx hb dX6_carries_18 rfl (lv_at hl 1 rfl) ?_
    obtain ⟨q19, h⟩ := h
    refine zlald hF hSt hH 34 (by decide) rfl (zE_34 _ _ _) q19 dX6_carries_19 ?_
    exact hret _ _ _ _ _ _ dX6_carries_20 h hH
  · have h := h.2 q5
    refine lv_lconst (v := (0 : Int64)) hx hb dX6_carries_8 (by decide) ?_
    exact hret _ _ _ _ _ _ dX6_carries_9 h hH
set_option maxRecDepth 100000 in
theorem kX6_carries (l : Launch) (G : zG) (M O : zM) (x1 : Int32) (post : Int64 → zM → Prop) (h : pX6_carries M x1 post) : Met l yX6_carries wsX6_carries ({ frames := 4, cells := 0, slots := 0, locals := 97 } : Room) (zPc G false M O [.ref (G.1 21), .int x1]) (va_Ql post (zB G false O) (zAA G)) 0 0 (zAA G) :=
  zmet_l (by decide) rfl (Nat.le_of_ble_eq_true rfl) (fun hF hSt hret H locs ls hH hl => wX6_carries hF hSt hret x1 H locs ls hH hl h)
end
theorem znX6_reduce_X6 : ∀ w ∈ wsX60, w ∈ wsX6_reduce := fun _ h => List.mem_cons_of_mem _ (List.mem_append_right _ h)
theorem zdX6_reduce : yX6_reduce.cls ≠ "java/lang/invoke/MethodHandle" ∧ yX6_reduce.cls ≠ "java/lang/invoke/VarHandle" ∧ (parseMethodDescriptor yX6_reduce.desc).map (fun d => d.parameters.length) = some 0 := by decide +kernel
-- MixingRelaysModel reduce()V
section
variable {p : Program} {l : Launch} {e : Env} {s : State} {m : MethodId} {args : Array Value} {below : List Frame} {meth : Method} {c : Code} {Q : State → Prop} {G : zG} {O : zM}
def pX6_reduce_b64 (post : zM → Prop) (ag2 : Int32 → zM → Prop) (x1 : Int32) (M : zM) : Prop :=
  ag2 (x1 + (1 : Int32)) M
set_option maxHeartbeats 4000000 in
set_option maxRecDepth 100000 in
theorem wX6_reduce_b64 {post : zM → Prop} {ag2 : Int32 → zM → Prop} (hF : CallFix p m c cX6_reduce 4 s args wsX6_reduce RX6) (hSt : zSt G s) (hret : zRv p l e ({ frames := 1, cells := 0, slots := 0, locals := 24 } : Room) s m args below meth c Q cX6_reduce G false O post) (hag2 : ∀ (x1 : Int32) (M : zM) (H : Heap) (locs : List Loc) (ls : Array Slot), ag2 x1 M → zH G false s H locs M O → lv_has ls 4 [(0, .ref (G.1 21)), (1, .int x1)] → W p l e ({ frames := 1, cells := 0, slots := 0, locals := 24 } : Room) s m args below meth c H locs 0 0 Q (F0 m 2 ls [])) (x1 : Int32) (M : zM) (H : Heap) (locs : List Loc) (ls : Array Slot) (hH : zH G false s H locs M O) (hl : lv_has ls 4 [(0, .ref (G.1 21)), (1, .int x1)]) (h : pX6_reduce_b64 post ag2 x1 M) : W p l e ({ frames := 1, cells := 0, slots := 0, locals := 24 } : Room) s m args below meth c H locs 0 0 Q (F0 m 64 ls []) := by
  obtain ⟨hx, hb, hml, hown, hts⟩ := id hF
  unfold pX6_reduce_b64 at h
  refine lv_iinc (v := (x1 + (1 : Int32))) (lv' := [(1, .int (x1 + (1 : Int32))), (0, .ref (G.1 21))]) hx hb dX6_reduce_64 hl (k := 1) rfl rfl (by decide) rfl (fun ls hl => ?_)
  refine lv_goto (tgt := 2) hx hb dX6_reduce_67 (by decide) ?_
  exact hag2 (x1 + (1 : Int32)) M H locs ls h hH (lv_sub hl [1, 0] rfl)
def pX6_reduce_b24 (post : zM → Prop) (ag2 : Int32 → zM → Prop) (ag24 : Int32 → Int32 → Int32 → zM → Prop) (x1 : Int32) (x2 : Int32) (x3 : Int32) (M : zM) : Prop :=
  ((9 : Int32) ≤ x3 → pX6_reduce_b64 post ag2 x1 M) ∧ (¬ ((9 : Int32) ≤ x3) → (x2 = 0 → pX6_reduce_b64 post ag2 x1 M) ∧ (¬ (x2 = 0) → vp_in x3 9 ∧ vp_in (((9 : Int32) * x1) + x3) 36 ∧ pX6_product x2 (M.1 35 ((((9 : Int32) * x1) + x3)).toNatClampNeg) (fun r53 => vp_in x3 9 ∧ ag24 x1 x2 (x3 + (1 : Int32)) (zsi M 38 x3.toNatClampNeg ((M.1 38 x3.toNatClampNeg) ^^^ r53)))))
set_option maxHeartbeats 4000000 in
set_option maxRecDepth 100000 in
theorem wX6_reduce_b24 {post : zM → Prop} {ag2 : Int32 → zM → Prop} {ag24 : Int32 → Int32 → Int32 → zM → Prop} (hF : CallFix p m c cX6_reduce 4 s args wsX6_reduce RX6) (hSt : zSt G s) (hret : zRv p l e ({ frames := 1, cells := 0, slots := 0, locals := 24 } : Room) s m args below meth c Q cX6_reduce G false O post) (hag2 : ∀ (x1 : Int32) (M : zM) (H : Heap) (locs : List Loc) (ls : Array Slot), ag2 x1 M → zH G false s H locs M O → lv_has ls 4 [(0, .ref (G.1 21)), (1, .int x1)] → W p l e ({ frames := 1, cells := 0, slots := 0, locals := 24 } : Room) s m args below meth c H locs 0 0 Q (F0 m 2 ls [])) (hag24 : ∀ (x1 : Int32) (x2 : Int32) (x3 : Int32) (M : zM) (H : Heap) (locs : List Loc) (ls : Array Slot), ag24 x1 x2 x3 M → zH G false s H locs M O → lv_has ls 4 [(0, .ref (G.1 21)), (1, .int x1), (2, .int x2), (3, .int x3)] → W p l e ({ frames := 1, cells := 0, slots := 0, locals := 24 } : Room) s m args below meth c H locs 0 0 Q (F0 m 24 ls [])) (x1 : Int32) (x2 : Int32) (x3 : Int32) (M : zM) (H : Heap) (locs : List Loc) (ls : Array Slot) (hH : zH G false s H locs M O) (hl : lv_has ls 4 [(0, .ref (G.1 21)), (1, .int x1), (2, .int x2), (3, .int x3)]) (h : pX6_reduce_b24 post ag2 ag24 x1 x2 x3 M) : W p l e ({ frames := 1, cells := 0, slots := 0, locals := 24 } : Room) s m args below meth c H locs 0 0 Q (F0 m 24 ls []) := by
  obtain ⟨hx, hb, hml, hown, hts⟩ := id hF
  unfold pX6_reduce_b24 at h
  refine lv_iload_n hx hb dX6_reduce_24 rfl (lv_at hl 3 rfl) ?_
  refine lv_bipush (v := (9 : Int32)) hx hb dX6_reduce_25 (by decide) ?_
  refine lv_icmp_ge (tgt := 64) hx hb dX6_reduce_27 (by decide) (fun q27 => ?_) (fun q27 => ?_)
  · have h := h.1 q27
    exact wX6_reduce_b64 hF hSt hret hag2 x1 M H locs ls hH (lv_sub hl [0, 1] rfl) h
  · have h := h.2 q27
    refine lv_iload_n hx hb dX6_reduce_30 rfl (lv_at hl 2 rfl) ?_
    refine lv_if_eq (tgt := 64) hx hb dX6_reduce_31 (by decide) (fun q31 => ?_) (fun q31 => ?_)
    · have h := h.1 q31
      exact wX6_reduce_b64 hF hSt hret hag2 x1 M H locs ls hH (lv_sub hl [0, 1] rfl) h
    · have h := h.2 q31
      refine lv_aload_n hx hb dX6_reduce_34 rfl (lv_at hl 0 rfl) ?_
      refine zget (v := .ref (G.1 38)) hF hSt hH 21 (by decide) rfl (zE_21 _ _ _) (C := RX6) (T := TX6) (N := 31) rfl znX6_reduce_X6 23 (by decide) (List.mem_of_getElem? (i := 2) rfl) rfl dX6_reduce_35 ?_
      refine lv_iload_n hx hb dX6_reduce_38 rfl (lv_at hl 3 rfl) ?_
      refine lv_dup2_11 hx hb dX6_reduce_39 rfl rfl ?_
      obtain ⟨q40, h⟩ := h
      refine zald hF hSt hH 38 (by decide) rfl (zE_38 _ _ _) q40 dX6_reduce_40 ?_
      refine lv_iload_n hx hb dX6_reduce_41 rfl (lv_at hl 2 rfl) ?_
      refine lv_aload_n hx hb dX6_reduce_42 rfl (lv_at hl 0 rfl) ?_
      refine zget (v := .ref (G.1 35)) hF hSt hH 21 (by decide) rfl (zE_21 _ _ _) (C := RX6) (T := TX6) (N := 31) rfl znX6_reduce_X6 19 (by decide) (List.mem_of_getElem? (i := 4) rfl) rfl dX6_reduce_43 ?_
      refine lv_bipush (v := (9 : Int32)) hx hb dX6_reduce_46 (by decide) ?_
      refine lv_iload_n hx hb dX6_reduce_48 rfl (lv_at hl 1 rfl) ?_
      refine lv_imul hx hb dX6_reduce_49 ?_
      refine lv_iload_n hx hb dX6_reduce_50 rfl (lv_at hl 3 rfl) ?_
      refine lv_iadd hx hb dX6_reduce_51 ?_
      obtain ⟨q52, h⟩ := h
      refine zald hF hSt hH 35 (by decide) rfl (zE_35 _ _ _) q52 dX6_reduce_52 ?_
      refine zcalliP hH (va_runS (As := [.int x2, .int (M.1 35 ((((9 : Int32) * x1) + x3)).toNatClampNeg)]) (rest := [.int (M.1 38 x3.toNatClampNeg), .int x3, .ref (G.1 38)]) hF (kX6_product l G M O x2 (M.1 35 ((((9 : Int32) * x1) + x3)).toNatClampNeg) _ h) (va_cwS 2 hts gX6_reduce_X6_product rfl rfl rfl zdX6_product ⟨Nat.le_of_ble_eq_true rfl, Nat.le_of_ble_eq_true rfl⟩) (zpreS hSt hH [.int x2, .int (M.1 35 ((((9 : Int32) * x1) + x3)).toNatClampNeg)]) rfl rfl hl.1 rfl (lv_room (Nat.le_of_ble_eq_true rfl)) dX6_reduce_53 ⟨Nat.zero_le _, Nat.zero_le _⟩) (fun r53 H locs h hH => ?_)
      refine lv_ixor hx hb dX6_reduce_56 ?_
      obtain ⟨q57, h⟩ := h
      refine zast hF hSt hH 38 (by decide) rfl (zE_38 _) (x := ((M.1 38 x3.toNatClampNeg) ^^^ r53)) q57 dX6_reduce_57 (fun H locs hH => ?_)
      refine lv_iinc (v := (x3 + (1 : Int32))) (lv' := [(3, .int (x3 + (1 : Int32))), (0, .ref (G.1 21)), (1, .int x1), (2, .int x2)]) hx hb dX6_reduce_58 hl (k := 3) rfl rfl (by decide) rfl (fun ls hl => ?_)
      refine lv_goto (tgt := 24) hx hb dX6_reduce_61 (by decide) ?_
      exact hag24 x1 x2 (x3 + (1 : Int32)) (zsi M 38 x3.toNatClampNeg ((M.1 38 x3.toNatClampNeg) ^^^ r53)) H locs ls h hH (lv_sub hl [1, 2, 3, 0] rfl)
def pX6_reduce_L24 (post : zM → Prop) (ag2 : Int32 → zM → Prop) (x1 : Int32) (x2 : Int32) (x3 : Int32) (M : zM) : Prop :=
  ∃ I : Nat → Int32 → Int32 → Int32 → zM → Prop, (∃ n, I n x1 x2 x3 M) ∧ ∀ n x1 x2 x3 M, I n x1 x2 x3 M → pX6_reduce_b24 post ag2 (fun x1 x2 x3 M => ∃ k, k < n ∧ I k x1 x2 x3 M) x1 x2 x3 M
set_option maxHeartbeats 4000000 in
theorem wX6_reduce_L24 {post : zM → Prop} {ag2 : Int32 → zM → Prop} (hF : CallFix p m c cX6_reduce 4 s args wsX6_reduce RX6) (hSt : zSt G s) (hret : zRv p l e ({ frames := 1, cells := 0, slots := 0, locals := 24 } : Room) s m args below meth c Q cX6_reduce G false O post) (hag2 : ∀ (x1 : Int32) (M : zM) (H : Heap) (locs : List Loc) (ls : Array Slot), ag2 x1 M → zH G false s H locs M O → lv_has ls 4 [(0, .ref (G.1 21)), (1, .int x1)] → W p l e ({ frames := 1, cells := 0, slots := 0, locals := 24 } : Room) s m args below meth c H locs 0 0 Q (F0 m 2 ls [])) (x1 : Int32) (x2 : Int32) (x3 : Int32) (M : zM) (H : Heap) (locs : List Loc) (ls : Array Slot) (hH : zH G false s H locs M O) (hl : lv_has ls 4 [(0, .ref (G.1 21)), (1, .int x1), (2, .int x2), (3, .int x3)]) (h : pX6_reduce_L24 post ag2 x1 x2 x3 M) : W p l e ({ frames := 1, cells := 0, slots := 0, locals := 24 } : Room) s m args below meth c H locs 0 0 Q (F0 m 24 ls []) := by
  obtain ⟨I, ⟨n, hI⟩, hs⟩ := h
  have key : ∀ (n : Nat) (x1 : Int32) (x2 : Int32) (x3 : Int32) (M : zM) (H : Heap) (locs : List Loc) (ls : Array Slot), I n x1 x2 x3 M → zH G false s H locs M O → lv_has ls 4 [(0, .ref (G.1 21)), (1, .int x1), (2, .int x2), (3, .int x3)] → W p l e ({ frames := 1, cells := 0, slots := 0, locals := 24 } : Room) s m args below meth c H locs 0 0 Q (F0 m 24 ls []) := by
    intro n
    induction n using Nat.strongRecOn with
    | _ n ih =>
      intro x1 x2 x3 M H locs ls hI hH hl
      exact wX6_reduce_b24 hF hSt hret hag2 (fun x1 x2 x3 M H locs ls h hH hl => by obtain ⟨k, hk, hI⟩ := h; exact ih k hk x1 x2 x3 M H locs ls hI hH hl) x1 x2 x3 M H locs ls hH hl (hs n x1 x2 x3 M hI)
  exact key n x1 x2 x3 M H locs ls hI hH hl
def pX6_reduce_b2 (post : zM → Prop) (ag2 : Int32 → zM → Prop) (x1 : Int32) (M : zM) : Prop :=
  ((M.1 21 22) ≤ x1 → post M) ∧ (¬ ((M.1 21 22) ≤ x1) → vp_in x1 4 ∧ vp_in (M.1 36 x1.toNatClampNeg) 9 ∧ pX6_reduce_L24 post ag2 x1 (M.1 38 ((M.1 36 x1.toNatClampNeg)).toNatClampNeg) (0 : Int32) M)
set_option maxHeartbeats 4000000 in
set_option maxRecDepth 100000 in
theorem wX6_reduce_b2 {post : zM → Prop} {ag2 : Int32 → zM → Prop} (hF : CallFix p m c cX6_reduce 4 s args wsX6_reduce RX6) (hSt : zSt G s) (hret : zRv p l e ({ frames := 1, cells := 0, slots := 0, locals := 24 } : Room) s m args below meth c Q cX6_reduce G false O post) (hag2 : ∀ (x1 : Int32) (M : zM) (H : Heap) (locs : List Loc) (ls : Array Slot), ag2 x1 M → zH G false s H locs M O → lv_has ls 4 [(0, .ref (G.1 21)), (1, .int x1)] → W p l e ({ frames := 1, cells := 0, slots := 0, locals := 24 } : Room) s m args below meth c H locs 0 0 Q (F0 m 2 ls [])) (x1 : Int32) (M : zM) (H : Heap) (locs : List Loc) (ls : Array Slot) (hH : zH G false s H locs M O) (hl : lv_has ls 4 [(0, .ref (G.1 21)), (1, .int x1)]) (h : pX6_reduce_b2 post ag2 x1 M) : W p l e ({ frames := 1, cells := 0, slots := 0, locals := 24 } : Room) s m args below meth c H locs 0 0 Q (F0 m 2 ls []) := by
  obtain ⟨hx, hb, hml, hown, hts⟩ := id hF
  unfold pX6_reduce_b2 at h
  refine lv_iload_n hx hb dX6_reduce_2 rfl (lv_at hl 1 rfl) ?_
  refine lv_aload_n hx hb dX6_reduce_3 rfl (lv_at hl 0 rfl) ?_
  refine zget (v := .int (M.1 21 22)) hF hSt hH 21 (by decide) rfl (zE_21 _ _ _) (C := RX6) (T := TX6) (N := 31) rfl znX6_reduce_X6 22 (by decide) (List.mem_of_getElem? (i := 1) rfl) rfl dX6_reduce_4 ?_
  refine lv_icmp_ge (tgt := 70) hx hb dX6_reduce_7 (by decide) (fun q7 => ?_) (fun q7 => ?_)
  · have h := h.1 q7
    exact hret _ _ _ _ _ dX6_reduce_70 h hH
  · have h := h.2 q7
    refine lv_aload_n hx hb dX6_reduce_10 rfl (lv_at hl 0 rfl) ?_
    refine zget (v := .ref (G.1 38)) hF hSt hH 21 (by decide) rfl (zE_21 _ _ _) (C := RX6) (T := TX6) (N := 31) rfl znX6_reduce_X6 23 (by decide) (List.mem_of_getElem? (i := 2) rfl) rfl dX6_reduce_11 ?_
    refine lv_aload_n hx hb dX6_reduce_14 rfl (lv_at hl 0 rfl) ?_
    refine zget (v := .ref (G.1 36)) hF hSt hH 21 (by decide) rfl (zE_21 _ _ _) (C := RX6) (T := TX6) (N := 31) rfl znX6_reduce_X6 20 (by decide) (List.mem_of_getElem? (i := 3) rfl) rfl dX6_reduce_15 ?_
    refine lv_iload_n hx hb dX6_reduce_18 rfl (lv_at hl 1 rfl) ?_
    obtain ⟨q19, h⟩ := h
    refine zald hF hSt hH 36 (by decide) rfl (zE_36 _ _ _) q19 dX6_reduce_19 ?_
    obtain ⟨q20, h⟩ := h
    refine zald hF hSt hH 38 (by decide) rfl (zE_38 _ _ _) q20 dX6_reduce_20 ?_
    refine lv_istore_n (lv' := [(2, .int (M.1 38 ((M.1 36 x1.toNatClampNeg)).toNatClampNeg)), (0, .ref (G.1 21)), (1, .int x1)]) hx hb dX6_reduce_21 rfl hl (by decide) rfl (fun ls hl => ?_)
    refine lv_iconst (v := (0 : Int32)) hx hb dX6_reduce_22 (by decide) ?_
    refine lv_istore_n (lv' := [(3, .int (0 : Int32)), (2, .int (M.1 38 ((M.1 36 x1.toNatClampNeg)).toNatClampNeg)), (0, .ref (G.1 21)), (1, .int x1)]) hx hb dX6_reduce_23 rfl hl (by decide) rfl (fun ls hl => ?_)
    exact wX6_reduce_L24 hF hSt hret hag2 x1 (M.1 38 ((M.1 36 x1.toNatClampNeg)).toNatClampNeg) (0 : Int32) M H locs ls hH (lv_sub hl [2, 3, 1, 0] rfl) h
def pX6_reduce_L2 (post : zM → Prop) (x1 : Int32) (M : zM) : Prop :=
  ∃ I : Nat → Int32 → zM → Prop, (∃ n, I n x1 M) ∧ ∀ n x1 M, I n x1 M → pX6_reduce_b2 post (fun x1 M => ∃ k, k < n ∧ I k x1 M) x1 M
set_option maxHeartbeats 4000000 in
theorem wX6_reduce_L2 {post : zM → Prop}  (hF : CallFix p m c cX6_reduce 4 s args wsX6_reduce RX6) (hSt : zSt G s) (hret : zRv p l e ({ frames := 1, cells := 0, slots := 0, locals := 24 } : Room) s m args below meth c Q cX6_reduce G false O post) (x1 : Int32) (M : zM) (H : Heap) (locs : List Loc) (ls : Array Slot) (hH : zH G false s H locs M O) (hl : lv_has ls 4 [(0, .ref (G.1 21)), (1, .int x1)]) (h : pX6_reduce_L2 post x1 M) : W p l e ({ frames := 1, cells := 0, slots := 0, locals := 24 } : Room) s m args below meth c H locs 0 0 Q (F0 m 2 ls []) := by
  obtain ⟨I, ⟨n, hI⟩, hs⟩ := h
  have key : ∀ (n : Nat) (x1 : Int32) (M : zM) (H : Heap) (locs : List Loc) (ls : Array Slot), I n x1 M → zH G false s H locs M O → lv_has ls 4 [(0, .ref (G.1 21)), (1, .int x1)] → W p l e ({ frames := 1, cells := 0, slots := 0, locals := 24 } : Room) s m args below meth c H locs 0 0 Q (F0 m 2 ls []) := by
    intro n
    induction n using Nat.strongRecOn with
    | _ n ih =>
      intro x1 M H locs ls hI hH hl
      exact wX6_reduce_b2 hF hSt hret (fun x1 M H locs ls h hH hl => by obtain ⟨k, hk, hI⟩ := h; exact ih k hk x1 M H locs ls hI hH hl) x1 M H locs ls hH hl (hs n x1 M hI)
  exact key n x1 M H locs ls hI hH hl
def pX6_reduce (M : zM)  (post : zM → Prop) : Prop :=
  pX6_reduce_L2 post (0 : Int32) M
set_option maxHeartbeats 4000000 in
set_option maxRecDepth 100000 in
theorem wX6_reduce {M : zM} {post : zM → Prop} (hF : CallFix p m c cX6_reduce 4 s args wsX6_reduce RX6) (hSt : zSt G s) (hret : zRv p l e ({ frames := 1, cells := 0, slots := 0, locals := 24 } : Room) s m args below meth c Q cX6_reduce G false O post)  (H : Heap) (locs : List Loc) (ls : Array Slot) (hH : zH G false s H locs M O) (hl : lv_has ls 4 [(0, .ref (G.1 21))]) (h : pX6_reduce M  post) : W p l e ({ frames := 1, cells := 0, slots := 0, locals := 24 } : Room) s m args below meth c H locs 0 0 Q (F0 m 0 ls []) := by
  obtain ⟨hx, hb, hml, hown, hts⟩ := id hF
  unfold pX6_reduce at h
  refine lv_iconst (v := (0 : Int32)) hx hb dX6_reduce_0 (by decide) ?_
  refine lv_istore_n (lv' := [(1, .int (0 : Int32)), (0, .ref (G.1 21))]) hx hb dX6_reduce_1 rfl hl (by decide) rfl (fun ls hl => ?_)
  exact wX6_reduce_L2 hF hSt hret (0 : Int32) M H locs ls hH (lv_sub hl [1, 0] rfl) h
set_option maxRecDepth 100000 in
theorem kX6_reduce (l : Launch) (G : zG) (M O : zM)  (post : zM → Prop) (h : pX6_reduce M  post) : Met l yX6_reduce wsX6_reduce ({ frames := 1, cells := 0, slots := 0, locals := 24 } : Room) (zPc G false M O [.ref (G.1 21)]) (va_Qv post (zB G false O) (zAA G)) 0 0 (zAA G) :=
  zmet_v (by decide) rfl (Nat.le_of_ble_eq_true rfl) (fun hF hSt hret H locs ls hH hl => wX6_reduce hF hSt hret  H locs ls hH hl h)
end
theorem znX6_steps_X6 : ∀ w ∈ wsX60, w ∈ wsX6_steps := fun _ h => List.mem_cons_of_mem _ (List.mem_append_right _ h)
theorem zdX6_steps : yX6_steps.cls ≠ "java/lang/invoke/MethodHandle" ∧ yX6_steps.cls ≠ "java/lang/invoke/VarHandle" ∧ (parseMethodDescriptor yX6_steps.desc).map (fun d => d.parameters.length) = some 0 := by decide +kernel
-- MixingRelaysModel steps()Z
section
variable {p : Program} {l : Launch} {e : Env} {s : State} {m : MethodId} {args : Array Value} {below : List Frame} {meth : Method} {c : Code} {Q : State → Prop} {G : zG} {O : zM}
def pX6_steps_b158 (post : Int32 → zM → Prop) (ag158 : Int32 → Int32 → zM → Prop) (x1 : Int32) (x3 : Int32) (M : zM) : Prop :=
  ((9 : Int32) ≤ x3 → vp_in (M.1 21 22) 4 ∧ ((1 : Int32) = 0 ∨ (1 : Int32) = 1) ∧ post (1 : Int32) (zsi (zsi M 36 ((M.1 21 22)).toNatClampNeg x1) 21 22 (((zsi M 36 ((M.1 21 22)).toNatClampNeg x1).1 21 22) + (1 : Int32)))) ∧ (¬ ((9 : Int32) ≤ x3) → vp_in x3 9 ∧ vp_in (((9 : Int32) * (M.1 21 22)) + x3) 36 ∧ ag158 x1 (x3 + (1 : Int32)) (zsi M 35 ((((9 : Int32) * (M.1 21 22)) + x3)).toNatClampNeg (M.1 38 x3.toNatClampNeg)))
set_option maxHeartbeats 4000000 in
set_option maxRecDepth 100000 in
theorem wX6_steps_b158 {post : Int32 → zM → Prop} {ag158 : Int32 → Int32 → zM → Prop} (hF : CallFix p m c cX6_steps 6 s args wsX6_steps RX6) (hSt : zSt G s) (hret : zRz p l e ({ frames := 2, cells := 0, slots := 0, locals := 47 } : Room) s m args below meth c Q cX6_steps G false O post) (hag158 : ∀ (x1 : Int32) (x3 : Int32) (M : zM) (H : Heap) (locs : List Loc) (ls : Array Slot), ag158 x1 x3 M → zH G false s H locs M O → lv_has ls 6 [(0, .ref (G.1 21)), (1, .int x1), (3, .int x3)] → W p l e ({ frames := 2, cells := 0, slots := 0, locals := 47 } : Room) s m args below meth c H locs 0 0 Q (F0 m 158 ls [])) (x1 : Int32) (x3 : Int32) (M : zM) (H : Heap) (locs : List Loc) (ls : Array Slot) (hH : zH G false s H locs M O) (hl : lv_has ls 6 [(0, .ref (G.1 21)), (1, .int x1), (3, .int x3)]) (h : pX6_steps_b158 post ag158 x1 x3 M) : W p l e ({ frames := 2, cells := 0, slots := 0, locals := 47 } : Room) s m args below meth c H locs 0 0 Q (F0 m 158 ls []) := by
  obtain ⟨hx, hb, hml, hown, hts⟩ := id hF
  unfold pX6_steps_b158 at h
  refine lv_iload_n hx hb dX6_steps_158 rfl (lv_at hl 2 rfl) ?_
  refine lv_bipush (v := (9 : Int32)) hx hb dX6_steps_159 (by decide) ?_
  refine lv_icmp_ge (tgt := 190) hx hb dX6_steps_161 (by decide) (fun q161 => ?_) (fun q161 => ?_)
  · have h := h.1 q161
    refine lv_aload_n hx hb dX6_steps_190 rfl (lv_at hl 0 rfl) ?_
    refine zget (v := .ref (G.1 36)) hF hSt hH 21 (by decide) rfl (zE_21 _ _ _) (C := RX6) (T := TX6) (N := 31) rfl znX6_steps_X6 20 (by decide) (List.mem_of_getElem? (i := 5) rfl) rfl dX6_steps_191 ?_
    refine lv_aload_n hx hb dX6_steps_194 rfl (lv_at hl 0 rfl) ?_
    refine zget (v := .int (M.1 21 22)) hF hSt hH 21 (by decide) rfl (zE_21 _ _ _) (C := RX6) (T := TX6) (N := 31) rfl znX6_steps_X6 22 (by decide) (List.mem_of_getElem? (i := 3) rfl) rfl dX6_steps_195 ?_
    refine lv_iload_n hx hb dX6_steps_198 rfl (lv_at hl 1 rfl) ?_
    obtain ⟨q199, h⟩ := h
    refine zast hF hSt hH 36 (by decide) rfl (zE_36 _) (x := x1) q199 dX6_steps_199 (fun H locs hH => ?_)
    refine lv_aload_n hx hb dX6_steps_200 rfl (lv_at hl 0 rfl) ?_
    refine lv_dup hx hb dX6_steps_201 rfl ?_
    refine zget (v := .int ((zsi M 36 ((M.1 21 22)).toNatClampNeg x1).1 21 22)) hF hSt hH 21 (by decide) rfl (zE_21 _ _ _) (C := RX6) (T := TX6) (N := 31) rfl znX6_steps_X6 22 (by decide) (List.mem_of_getElem? (i := 3) rfl) rfl dX6_steps_202 ?_
    refine lv_iconst (v := (1 : Int32)) hx hb dX6_steps_205 (by decide) ?_
    refine lv_iadd hx hb dX6_steps_206 ?_
    refine zput hF hSt hH 21 (by decide) rfl (zE_21 _ _ _) (C := RX6) (T := TX6) (N := 31) rfl znX6_steps_X6 tyX6 tyX6_ok nmX6 22 (by decide) (List.mem_of_getElem? (i := 3) rfl) rfl (by decide +kernel) (Nat.le_of_ble_eq_true rfl) (x := (((zsi M 36 ((M.1 21 22)).toNatClampNeg x1).1 21 22) + (1 : Int32))) rfl dX6_steps_207 (fun H locs hH => ?_)
    refine lv_iconst (v := (1 : Int32)) hx hb dX6_steps_210 (by decide) ?_
    exact hret _ _ _ _ _ _ dX6_steps_211 h hH
  · have h := h.2 q161
    refine lv_aload_n hx hb dX6_steps_164 rfl (lv_at hl 0 rfl) ?_
    refine zget (v := .ref (G.1 35)) hF hSt hH 21 (by decide) rfl (zE_21 _ _ _) (C := RX6) (T := TX6) (N := 31) rfl znX6_steps_X6 19 (by decide) (List.mem_of_getElem? (i := 4) rfl) rfl dX6_steps_165 ?_
    refine lv_bipush (v := (9 : Int32)) hx hb dX6_steps_168 (by decide) ?_
    refine lv_aload_n hx hb dX6_steps_170 rfl (lv_at hl 0 rfl) ?_
    refine zget (v := .int (M.1 21 22)) hF hSt hH 21 (by decide) rfl (zE_21 _ _ _) (C := RX6) (T := TX6) (N := 31) rfl znX6_steps_X6 22 (by decide) (List.mem_of_getElem? (i := 3) rfl) rfl dX6_steps_171 ?_
    refine lv_imul hx hb dX6_steps_174 ?_
    refine lv_iload_n hx hb dX6_steps_175 rfl (lv_at hl 2 rfl) ?_
    refine lv_iadd hx hb dX6_steps_176 ?_
    refine lv_aload_n hx hb dX6_steps_177 rfl (lv_at hl 0 rfl) ?_
    refine zget (v := .ref (G.1 38)) hF hSt hH 21 (by decide) rfl (zE_21 _ _ _) (C := RX6) (T := TX6) (N := 31) rfl znX6_steps_X6 23 (by decide) (List.mem_of_getElem? (i := 2) rfl) rfl dX6_steps_178 ?_
    refine lv_iload_n hx hb dX6_steps_181 rfl (lv_at hl 2 rfl) ?_
    obtain ⟨q182, h⟩ := h
    refine zald hF hSt hH 38 (by decide) rfl (zE_38 _ _ _) q182 dX6_steps_182 ?_
    obtain ⟨q183, h⟩ := h
    refine zast hF hSt hH 35 (by decide) rfl (zE_35 _) (x := (M.1 38 x3.toNatClampNeg)) q183 dX6_steps_183 (fun H locs hH => ?_)
    refine lv_iinc (v := (x3 + (1 : Int32))) (lv' := [(3, .int (x3 + (1 : Int32))), (0, .ref (G.1 21)), (1, .int x1)]) hx hb dX6_steps_184 hl (k := 2) rfl rfl (by decide) rfl (fun ls hl => ?_)
    refine lv_goto (tgt := 158) hx hb dX6_steps_187 (by decide) ?_
    exact hag158 x1 (x3 + (1 : Int32)) (zsi M 35 ((((9 : Int32) * (M.1 21 22)) + x3)).toNatClampNeg (M.1 38 x3.toNatClampNeg)) H locs ls h hH (lv_sub hl [1, 2, 0] rfl)
def pX6_steps_L158 (post : Int32 → zM → Prop) (x1 : Int32) (x3 : Int32) (M : zM) : Prop :=
  ∃ I : Nat → Int32 → Int32 → zM → Prop, (∃ n, I n x1 x3 M) ∧ ∀ n x1 x3 M, I n x1 x3 M → pX6_steps_b158 post (fun x1 x3 M => ∃ k, k < n ∧ I k x1 x3 M) x1 x3 M
set_option maxHeartbeats 4000000 in
theorem wX6_steps_L158 {post : Int32 → zM → Prop}  (hF : CallFix p m c cX6_steps 6 s args wsX6_steps RX6) (hSt : zSt G s) (hret : zRz p l e ({ frames := 2, cells := 0, slots := 0, locals := 47 } : Room) s m args below meth c Q cX6_steps G false O post) (x1 : Int32) (x3 : Int32) (M : zM) (H : Heap) (locs : List Loc) (ls : Array Slot) (hH : zH G false s H locs M O) (hl : lv_has ls 6 [(0, .ref (G.1 21)), (1, .int x1), (3, .int x3)]) (h : pX6_steps_L158 post x1 x3 M) : W p l e ({ frames := 2, cells := 0, slots := 0, locals := 47 } : Room) s m args below meth c H locs 0 0 Q (F0 m 158 ls []) := by
  obtain ⟨I, ⟨n, hI⟩, hs⟩ := h
  have key : ∀ (n : Nat) (x1 : Int32) (x3 : Int32) (M : zM) (H : Heap) (locs : List Loc) (ls : Array Slot), I n x1 x3 M → zH G false s H locs M O → lv_has ls 6 [(0, .ref (G.1 21)), (1, .int x1), (3, .int x3)] → W p l e ({ frames := 2, cells := 0, slots := 0, locals := 47 } : Room) s m args below meth c H locs 0 0 Q (F0 m 158 ls []) := by
    intro n
    induction n using Nat.strongRecOn with
    | _ n ih =>
      intro x1 x3 M H locs ls hI hH hl
      exact wX6_steps_b158 hF hSt hret (fun x1 x3 M H locs ls h hH hl => by obtain ⟨k, hk, hI⟩ := h; exact ih k hk x1 x3 M H locs ls hI hH hl) x1 x3 M H locs ls hH hl (hs n x1 x3 M hI)
  exact key n x1 x3 M H locs ls hI hH hl
def pX6_steps_b150 (post : Int32 → zM → Prop) (ag81 : Int32 → Int32 → zM → Prop) (x1 : Int32) (x3 : Int32) (M : zM) : Prop :=
  ag81 x1 (x3 + (1 : Int32)) M
set_option maxHeartbeats 4000000 in
set_option maxRecDepth 100000 in
theorem wX6_steps_b150 {post : Int32 → zM → Prop} {ag81 : Int32 → Int32 → zM → Prop} (hF : CallFix p m c cX6_steps 6 s args wsX6_steps RX6) (hSt : zSt G s) (hret : zRz p l e ({ frames := 2, cells := 0, slots := 0, locals := 47 } : Room) s m args below meth c Q cX6_steps G false O post) (hag81 : ∀ (x1 : Int32) (x3 : Int32) (M : zM) (H : Heap) (locs : List Loc) (ls : Array Slot), ag81 x1 x3 M → zH G false s H locs M O → lv_has ls 6 [(0, .ref (G.1 21)), (1, .int x1), (3, .int x3)] → W p l e ({ frames := 2, cells := 0, slots := 0, locals := 47 } : Room) s m args below meth c H locs 0 0 Q (F0 m 81 ls [])) (x1 : Int32) (x3 : Int32) (M : zM) (H : Heap) (locs : List Loc) (ls : Array Slot) (hH : zH G false s H locs M O) (hl : lv_has ls 6 [(0, .ref (G.1 21)), (1, .int x1), (3, .int x3)]) (h : pX6_steps_b150 post ag81 x1 x3 M) : W p l e ({ frames := 2, cells := 0, slots := 0, locals := 47 } : Room) s m args below meth c H locs 0 0 Q (F0 m 150 ls []) := by
  obtain ⟨hx, hb, hml, hown, hts⟩ := id hF
  unfold pX6_steps_b150 at h
  refine lv_iinc (v := (x3 + (1 : Int32))) (lv' := [(3, .int (x3 + (1 : Int32))), (0, .ref (G.1 21)), (1, .int x1)]) hx hb dX6_steps_150 hl (k := 2) rfl rfl (by decide) rfl (fun ls hl => ?_)
  refine lv_goto (tgt := 81) hx hb dX6_steps_153 (by decide) ?_
  exact hag81 x1 (x3 + (1 : Int32)) M H locs ls h hH (lv_sub hl [1, 2, 0] rfl)
def pX6_steps_b105 (post : Int32 → zM → Prop) (ag81 : Int32 → Int32 → zM → Prop) (ag105 : Int32 → Int32 → Int32 → Int32 → zM → Prop) (x1 : Int32) (x3 : Int32) (x4 : Int32) (x5 : Int32) (M : zM) : Prop :=
  ((9 : Int32) ≤ x5 → pX6_steps_b150 post ag81 x1 x3 M) ∧ (¬ ((9 : Int32) ≤ x5) → (x4 = 0 → pX6_steps_b150 post ag81 x1 x3 M) ∧ (¬ (x4 = 0) → vp_in (((9 : Int32) * x3) + x5) 36 ∧ vp_in x5 9 ∧ pX6_product x4 (M.1 38 x5.toNatClampNeg) (fun r139 => vp_in (((9 : Int32) * x3) + x5) 36 ∧ ag105 x1 x3 x4 (x5 + (1 : Int32)) (zsi M 35 ((((9 : Int32) * x3) + x5)).toNatClampNeg ((M.1 35 ((((9 : Int32) * x3) + x5)).toNatClampNeg) ^^^ r139)))))
set_option maxHeartbeats 4000000 in
set_option maxRecDepth 100000 in
theorem wX6_steps_b105 {post : Int32 → zM → Prop} {ag81 : Int32 → Int32 → zM → Prop} {ag105 : Int32 → Int32 → Int32 → Int32 → zM → Prop} (hF : CallFix p m c cX6_steps 6 s args wsX6_steps RX6) (hSt : zSt G s) (hret : zRz p l e ({ frames := 2, cells := 0, slots := 0, locals := 47 } : Room) s m args below meth c Q cX6_steps G false O post) (hag81 : ∀ (x1 : Int32) (x3 : Int32) (M : zM) (H : Heap) (locs : List Loc) (ls : Array Slot), ag81 x1 x3 M → zH G false s H locs M O → lv_has ls 6 [(0, .ref (G.1 21)), (1, .int x1), (3, .int x3)] → W p l e ({ frames := 2, cells := 0, slots := 0, locals := 47 } : Room) s m args below meth c H locs 0 0 Q (F0 m 81 ls [])) (hag105 : ∀ (x1 : Int32) (x3 : Int32) (x4 : Int32) (x5 : Int32) (M : zM) (H : Heap) (locs : List Loc) (ls : Array Slot), ag105 x1 x3 x4 x5 M → zH G false s H locs M O → lv_has ls 6 [(0, .ref (G.1 21)), (1, .int x1), (3, .int x3), (4, .int x4), (5, .int x5)] → W p l e ({ frames := 2, cells := 0, slots := 0, locals := 47 } : Room) s m args below meth c H locs 0 0 Q (F0 m 105 ls [])) (x1 : Int32) (x3 : Int32) (x4 : Int32) (x5 : Int32) (M : zM) (H : Heap) (locs : List Loc) (ls : Array Slot) (hH : zH G false s H locs M O) (hl : lv_has ls 6 [(0, .ref (G.1 21)), (1, .int x1), (3, .int x3), (4, .int x4), (5, .int x5)]) (h : pX6_steps_b105 post ag81 ag105 x1 x3 x4 x5 M) : W p l e ({ frames := 2, cells := 0, slots := 0, locals := 47 } : Room) s m args below meth c H locs 0 0 Q (F0 m 105 ls []) := by
  obtain ⟨hx, hb, hml, hown, hts⟩ := id hF
  unfold pX6_steps_b105 at h
  refine lv_iload hx hb dX6_steps_105 (lv_at hl 4 rfl) ?_
  refine lv_bipush (v := (9 : Int32)) hx hb dX6_steps_107 (by decide) ?_
  refine lv_icmp_ge (tgt := 150) hx hb dX6_steps_109 (by decide) (fun q109 => ?_) (fun q109 => ?_)
  · have h := h.1 q109
    exact wX6_steps_b150 hF hSt hret hag81 x1 x3 M H locs ls hH (lv_sub hl [0, 1, 2] rfl) h
  · have h := h.2 q109
    refine lv_iload hx hb dX6_steps_112 (lv_at hl 3 rfl) ?_
    refine lv_if_eq (tgt := 150) hx hb dX6_steps_114 (by decide) (fun q114 => ?_) (fun q114 => ?_)
    · have h := h.1 q114
      exact wX6_steps_b150 hF hSt hret hag81 x1 x3 M H locs ls hH (lv_sub hl [0, 1, 2] rfl) h
    · have h := h.2 q114
      refine lv_aload_n hx hb dX6_steps_117 rfl (lv_at hl 0 rfl) ?_
      refine zget (v := .ref (G.1 35)) hF hSt hH 21 (by decide) rfl (zE_21 _ _ _) (C := RX6) (T := TX6) (N := 31) rfl znX6_steps_X6 19 (by decide) (List.mem_of_getElem? (i := 4) rfl) rfl dX6_steps_118 ?_
      refine lv_bipush (v := (9 : Int32)) hx hb dX6_steps_121 (by decide) ?_
      refine lv_iload_n hx hb dX6_steps_123 rfl (lv_at hl 2 rfl) ?_
      refine lv_imul hx hb dX6_steps_124 ?_
      refine lv_iload hx hb dX6_steps_125 (lv_at hl 4 rfl) ?_
      refine lv_iadd hx hb dX6_steps_127 ?_
      refine lv_dup2_11 hx hb dX6_steps_128 rfl rfl ?_
      obtain ⟨q129, h⟩ := h
      refine zald hF hSt hH 35 (by decide) rfl (zE_35 _ _ _) q129 dX6_steps_129 ?_
      refine lv_iload hx hb dX6_steps_130 (lv_at hl 3 rfl) ?_
      refine lv_aload_n hx hb dX6_steps_132 rfl (lv_at hl 0 rfl) ?_
      refine zget (v := .ref (G.1 38)) hF hSt hH 21 (by decide) rfl (zE_21 _ _ _) (C := RX6) (T := TX6) (N := 31) rfl znX6_steps_X6 23 (by decide) (List.mem_of_getElem? (i := 2) rfl) rfl dX6_steps_133 ?_
      refine lv_iload hx hb dX6_steps_136 (lv_at hl 4 rfl) ?_
      obtain ⟨q138, h⟩ := h
      refine zald hF hSt hH 38 (by decide) rfl (zE_38 _ _ _) q138 dX6_steps_138 ?_
      refine zcalliP hH (va_runS (As := [.int x4, .int (M.1 38 x5.toNatClampNeg)]) (rest := [.int (M.1 35 ((((9 : Int32) * x3) + x5)).toNatClampNeg), .int (((9 : Int32) * x3) + x5), .ref (G.1 35)]) hF (kX6_product l G M O x4 (M.1 38 x5.toNatClampNeg) _ h) (va_cwS 2 hts gX6_steps_X6_product rfl rfl rfl zdX6_product ⟨Nat.le_of_ble_eq_true rfl, Nat.le_of_ble_eq_true rfl⟩) (zpreS hSt hH [.int x4, .int (M.1 38 x5.toNatClampNeg)]) rfl rfl hl.1 rfl (lv_room (Nat.le_of_ble_eq_true rfl)) dX6_steps_139 ⟨Nat.zero_le _, Nat.zero_le _⟩) (fun r139 H locs h hH => ?_)
      refine lv_ixor hx hb dX6_steps_142 ?_
      obtain ⟨q143, h⟩ := h
      refine zast hF hSt hH 35 (by decide) rfl (zE_35 _) (x := ((M.1 35 ((((9 : Int32) * x3) + x5)).toNatClampNeg) ^^^ r139)) q143 dX6_steps_143 (fun H locs hH => ?_)
      refine lv_iinc (v := (x5 + (1 : Int32))) (lv' := [(5, .int (x5 + (1 : Int32))), (0, .ref (G.1 21)), (1, .int x1), (3, .int x3), (4, .int x4)]) hx hb dX6_steps_144 hl (k := 4) rfl rfl (by decide) rfl (fun ls hl => ?_)
      refine lv_goto (tgt := 105) hx hb dX6_steps_147 (by decide) ?_
      exact hag105 x1 x3 x4 (x5 + (1 : Int32)) (zsi M 35 ((((9 : Int32) * x3) + x5)).toNatClampNeg ((M.1 35 ((((9 : Int32) * x3) + x5)).toNatClampNeg) ^^^ r139)) H locs ls h hH (lv_sub hl [1, 2, 3, 4, 0] rfl)
def pX6_steps_L105 (post : Int32 → zM → Prop) (ag81 : Int32 → Int32 → zM → Prop) (x1 : Int32) (x3 : Int32) (x4 : Int32) (x5 : Int32) (M : zM) : Prop :=
  ∃ I : Nat → Int32 → Int32 → Int32 → Int32 → zM → Prop, (∃ n, I n x1 x3 x4 x5 M) ∧ ∀ n x1 x3 x4 x5 M, I n x1 x3 x4 x5 M → pX6_steps_b105 post ag81 (fun x1 x3 x4 x5 M => ∃ k, k < n ∧ I k x1 x3 x4 x5 M) x1 x3 x4 x5 M
set_option maxHeartbeats 4000000 in
theorem wX6_steps_L105 {post : Int32 → zM → Prop} {ag81 : Int32 → Int32 → zM → Prop} (hF : CallFix p m c cX6_steps 6 s args wsX6_steps RX6) (hSt : zSt G s) (hret : zRz p l e ({ frames := 2, cells := 0, slots := 0, locals := 47 } : Room) s m args below meth c Q cX6_steps G false O post) (hag81 : ∀ (x1 : Int32) (x3 : Int32) (M : zM) (H : Heap) (locs : List Loc) (ls : Array Slot), ag81 x1 x3 M → zH G false s H locs M O → lv_has ls 6 [(0, .ref (G.1 21)), (1, .int x1), (3, .int x3)] → W p l e ({ frames := 2, cells := 0, slots := 0, locals := 47 } : Room) s m args below meth c H locs 0 0 Q (F0 m 81 ls [])) (x1 : Int32) (x3 : Int32) (x4 : Int32) (x5 : Int32) (M : zM) (H : Heap) (locs : List Loc) (ls : Array Slot) (hH : zH G false s H locs M O) (hl : lv_has ls 6 [(0, .ref (G.1 21)), (1, .int x1), (3, .int x3), (4, .int x4), (5, .int x5)]) (h : pX6_steps_L105 post ag81 x1 x3 x4 x5 M) : W p l e ({ frames := 2, cells := 0, slots := 0, locals := 47 } : Room) s m args below meth c H locs 0 0 Q (F0 m 105 ls []) := by
  obtain ⟨I, ⟨n, hI⟩, hs⟩ := h
  have key : ∀ (n : Nat) (x1 : Int32) (x3 : Int32) (x4 : Int32) (x5 : Int32) (M : zM) (H : Heap) (locs : List Loc) (ls : Array Slot), I n x1 x3 x4 x5 M → zH G false s H locs M O → lv_has ls 6 [(0, .ref (G.1 21)), (1, .int x1), (3, .int x3), (4, .int x4), (5, .int x5)] → W p l e ({ frames := 2, cells := 0, slots := 0, locals := 47 } : Room) s m args below meth c H locs 0 0 Q (F0 m 105 ls []) := by
    intro n
    induction n using Nat.strongRecOn with
    | _ n ih =>
      intro x1 x3 x4 x5 M H locs ls hI hH hl
      exact wX6_steps_b105 hF hSt hret hag81 (fun x1 x3 x4 x5 M H locs ls h hH hl => by obtain ⟨k, hk, hI⟩ := h; exact ih k hk x1 x3 x4 x5 M H locs ls hI hH hl) x1 x3 x4 x5 M H locs ls hH hl (hs n x1 x3 x4 x5 M hI)
  exact key n x1 x3 x4 x5 M H locs ls hI hH hl
def pX6_steps_b81 (post : Int32 → zM → Prop) (ag81 : Int32 → Int32 → zM → Prop) (x1 : Int32) (x3 : Int32) (M : zM) : Prop :=
  ((M.1 21 22) ≤ x3 → pX6_steps_L158 post x1 (0 : Int32) M) ∧ (¬ ((M.1 21 22) ≤ x3) → vp_in (((9 : Int32) * x3) + x1) 36 ∧ pX6_steps_L105 post ag81 x1 x3 (M.1 35 ((((9 : Int32) * x3) + x1)).toNatClampNeg) (0 : Int32) M)
set_option maxHeartbeats 4000000 in
set_option maxRecDepth 100000 in
theorem wX6_steps_b81 {post : Int32 → zM → Prop} {ag81 : Int32 → Int32 → zM → Prop} (hF : CallFix p m c cX6_steps 6 s args wsX6_steps RX6) (hSt : zSt G s) (hret : zRz p l e ({ frames := 2, cells := 0, slots := 0, locals := 47 } : Room) s m args below meth c Q cX6_steps G false O post) (hag81 : ∀ (x1 : Int32) (x3 : Int32) (M : zM) (H : Heap) (locs : List Loc) (ls : Array Slot), ag81 x1 x3 M → zH G false s H locs M O → lv_has ls 6 [(0, .ref (G.1 21)), (1, .int x1), (3, .int x3)] → W p l e ({ frames := 2, cells := 0, slots := 0, locals := 47 } : Room) s m args below meth c H locs 0 0 Q (F0 m 81 ls [])) (x1 : Int32) (x3 : Int32) (M : zM) (H : Heap) (locs : List Loc) (ls : Array Slot) (hH : zH G false s H locs M O) (hl : lv_has ls 6 [(0, .ref (G.1 21)), (1, .int x1), (3, .int x3)]) (h : pX6_steps_b81 post ag81 x1 x3 M) : W p l e ({ frames := 2, cells := 0, slots := 0, locals := 47 } : Room) s m args below meth c H locs 0 0 Q (F0 m 81 ls []) := by
  obtain ⟨hx, hb, hml, hown, hts⟩ := id hF
  unfold pX6_steps_b81 at h
  refine lv_iload_n hx hb dX6_steps_81 rfl (lv_at hl 2 rfl) ?_
  refine lv_aload_n hx hb dX6_steps_82 rfl (lv_at hl 0 rfl) ?_
  refine zget (v := .int (M.1 21 22)) hF hSt hH 21 (by decide) rfl (zE_21 _ _ _) (C := RX6) (T := TX6) (N := 31) rfl znX6_steps_X6 22 (by decide) (List.mem_of_getElem? (i := 3) rfl) rfl dX6_steps_83 ?_
  refine lv_icmp_ge (tgt := 156) hx hb dX6_steps_86 (by decide) (fun q86 => ?_) (fun q86 => ?_)
  · have h := h.1 q86
    refine lv_iconst (v := (0 : Int32)) hx hb dX6_steps_156 (by decide) ?_
    refine lv_istore_n (lv' := [(3, .int (0 : Int32)), (0, .ref (G.1 21)), (1, .int x1)]) hx hb dX6_steps_157 rfl hl (by decide) rfl (fun ls hl => ?_)
    exact wX6_steps_L158 hF hSt hret x1 (0 : Int32) M H locs ls hH (lv_sub hl [1, 2, 0] rfl) h
  · have h := h.2 q86
    refine lv_aload_n hx hb dX6_steps_89 rfl (lv_at hl 0 rfl) ?_
    refine zget (v := .ref (G.1 35)) hF hSt hH 21 (by decide) rfl (zE_21 _ _ _) (C := RX6) (T := TX6) (N := 31) rfl znX6_steps_X6 19 (by decide) (List.mem_of_getElem? (i := 4) rfl) rfl dX6_steps_90 ?_
    refine lv_bipush (v := (9 : Int32)) hx hb dX6_steps_93 (by decide) ?_
    refine lv_iload_n hx hb dX6_steps_95 rfl (lv_at hl 2 rfl) ?_
    refine lv_imul hx hb dX6_steps_96 ?_
    refine lv_iload_n hx hb dX6_steps_97 rfl (lv_at hl 1 rfl) ?_
    refine lv_iadd hx hb dX6_steps_98 ?_
    obtain ⟨q99, h⟩ := h
    refine zald hF hSt hH 35 (by decide) rfl (zE_35 _ _ _) q99 dX6_steps_99 ?_
    refine lv_istore (lv' := [(4, .int (M.1 35 ((((9 : Int32) * x3) + x1)).toNatClampNeg)), (0, .ref (G.1 21)), (1, .int x1), (3, .int x3)]) hx hb dX6_steps_100 hl (by decide) rfl (fun ls hl => ?_)
    refine lv_iconst (v := (0 : Int32)) hx hb dX6_steps_102 (by decide) ?_
    refine lv_istore (lv' := [(5, .int (0 : Int32)), (4, .int (M.1 35 ((((9 : Int32) * x3) + x1)).toNatClampNeg)), (0, .ref (G.1 21)), (1, .int x1), (3, .int x3)]) hx hb dX6_steps_103 hl (by decide) rfl (fun ls hl => ?_)
    exact wX6_steps_L105 hF hSt hret hag81 x1 x3 (M.1 35 ((((9 : Int32) * x3) + x1)).toNatClampNeg) (0 : Int32) M H locs ls hH (lv_sub hl [2, 3, 4, 1, 0] rfl) h
def pX6_steps_L81 (post : Int32 → zM → Prop) (x1 : Int32) (x3 : Int32) (M : zM) : Prop :=
  ∃ I : Nat → Int32 → Int32 → zM → Prop, (∃ n, I n x1 x3 M) ∧ ∀ n x1 x3 M, I n x1 x3 M → pX6_steps_b81 post (fun x1 x3 M => ∃ k, k < n ∧ I k x1 x3 M) x1 x3 M
set_option maxHeartbeats 4000000 in
theorem wX6_steps_L81 {post : Int32 → zM → Prop}  (hF : CallFix p m c cX6_steps 6 s args wsX6_steps RX6) (hSt : zSt G s) (hret : zRz p l e ({ frames := 2, cells := 0, slots := 0, locals := 47 } : Room) s m args below meth c Q cX6_steps G false O post) (x1 : Int32) (x3 : Int32) (M : zM) (H : Heap) (locs : List Loc) (ls : Array Slot) (hH : zH G false s H locs M O) (hl : lv_has ls 6 [(0, .ref (G.1 21)), (1, .int x1), (3, .int x3)]) (h : pX6_steps_L81 post x1 x3 M) : W p l e ({ frames := 2, cells := 0, slots := 0, locals := 47 } : Room) s m args below meth c H locs 0 0 Q (F0 m 81 ls []) := by
  obtain ⟨I, ⟨n, hI⟩, hs⟩ := h
  have key : ∀ (n : Nat) (x1 : Int32) (x3 : Int32) (M : zM) (H : Heap) (locs : List Loc) (ls : Array Slot), I n x1 x3 M → zH G false s H locs M O → lv_has ls 6 [(0, .ref (G.1 21)), (1, .int x1), (3, .int x3)] → W p l e ({ frames := 2, cells := 0, slots := 0, locals := 47 } : Room) s m args below meth c H locs 0 0 Q (F0 m 81 ls []) := by
    intro n
    induction n using Nat.strongRecOn with
    | _ n ih =>
      intro x1 x3 M H locs ls hI hH hl
      exact wX6_steps_b81 hF hSt hret (fun x1 x3 M H locs ls h hH hl => by obtain ⟨k, hk, hI⟩ := h; exact ih k hk x1 x3 M H locs ls hI hH hl) x1 x3 M H locs ls hH hl (hs n x1 x3 M hI)
  exact key n x1 x3 M H locs ls hI hH hl
def pX6_steps_b51 (post : Int32 → zM → Prop) (ag51 : Int32 → Int32 → Int32 → zM → Prop) (x1 : Int32) (x2 : Int32) (x3 : Int32) (M : zM) : Prop :=
  ((9 : Int32) ≤ x3 → pX6_steps_L81 post x1 (0 : Int32) M) ∧ (¬ ((9 : Int32) ≤ x3) → vp_in x3 9 ∧ pX6_product x2 (M.1 38 x3.toNatClampNeg) (fun r69 => vp_in x3 9 ∧ ag51 x1 x2 (x3 + (1 : Int32)) (zsi M 38 x3.toNatClampNeg r69)))
set_option maxHeartbeats 4000000 in
set_option maxRecDepth 100000 in
theorem wX6_steps_b51 {post : Int32 → zM → Prop} {ag51 : Int32 → Int32 → Int32 → zM → Prop} (hF : CallFix p m c cX6_steps 6 s args wsX6_steps RX6) (hSt : zSt G s) (hret : zRz p l e ({ frames := 2, cells := 0, slots := 0, locals := 47 } : Room) s m args below meth c Q cX6_steps G false O post) (hag51 : ∀ (x1 : Int32) (x2 : Int32) (x3 : Int32) (M : zM) (H : Heap) (locs : List Loc) (ls : Array Slot), ag51 x1 x2 x3 M → zH G false s H locs M O → lv_has ls 6 [(0, .ref (G.1 21)), (1, .int x1), (2, .int x2), (3, .int x3)] → W p l e ({ frames := 2, cells := 0, slots := 0, locals := 47 } : Room) s m args below meth c H locs 0 0 Q (F0 m 51 ls [])) (x1 : Int32) (x2 : Int32) (x3 : Int32) (M : zM) (H : Heap) (locs : List Loc) (ls : Array Slot) (hH : zH G false s H locs M O) (hl : lv_has ls 6 [(0, .ref (G.1 21)), (1, .int x1), (2, .int x2), (3, .int x3)]) (h : pX6_steps_b51 post ag51 x1 x2 x3 M) : W p l e ({ frames := 2, cells := 0, slots := 0, locals := 47 } : Room) s m args below meth c H locs 0 0 Q (F0 m 51 ls []) := by
  obtain ⟨hx, hb, hml, hown, hts⟩ := id hF
  unfold pX6_steps_b51 at h
  refine lv_iload_n hx hb dX6_steps_51 rfl (lv_at hl 3 rfl) ?_
  refine lv_bipush (v := (9 : Int32)) hx hb dX6_steps_52 (by decide) ?_
  refine lv_icmp_ge (tgt := 79) hx hb dX6_steps_54 (by decide) (fun q54 => ?_) (fun q54 => ?_)
  · have h := h.1 q54
    refine lv_iconst (v := (0 : Int32)) hx hb dX6_steps_79 (by decide) ?_
    refine lv_istore_n (lv' := [(3, .int (0 : Int32)), (0, .ref (G.1 21)), (1, .int x1), (2, .int x2)]) hx hb dX6_steps_80 rfl hl (by decide) rfl (fun ls hl => ?_)
    exact wX6_steps_L81 hF hSt hret x1 (0 : Int32) M H locs ls hH (lv_sub hl [1, 2, 0] rfl) h
  · have h := h.2 q54
    refine lv_aload_n hx hb dX6_steps_57 rfl (lv_at hl 0 rfl) ?_
    refine zget (v := .ref (G.1 38)) hF hSt hH 21 (by decide) rfl (zE_21 _ _ _) (C := RX6) (T := TX6) (N := 31) rfl znX6_steps_X6 23 (by decide) (List.mem_of_getElem? (i := 2) rfl) rfl dX6_steps_58 ?_
    refine lv_iload_n hx hb dX6_steps_61 rfl (lv_at hl 3 rfl) ?_
    refine lv_iload_n hx hb dX6_steps_62 rfl (lv_at hl 2 rfl) ?_
    refine lv_aload_n hx hb dX6_steps_63 rfl (lv_at hl 0 rfl) ?_
    refine zget (v := .ref (G.1 38)) hF hSt hH 21 (by decide) rfl (zE_21 _ _ _) (C := RX6) (T := TX6) (N := 31) rfl znX6_steps_X6 23 (by decide) (List.mem_of_getElem? (i := 2) rfl) rfl dX6_steps_64 ?_
    refine lv_iload_n hx hb dX6_steps_67 rfl (lv_at hl 3 rfl) ?_
    obtain ⟨q68, h⟩ := h
    refine zald hF hSt hH 38 (by decide) rfl (zE_38 _ _ _) q68 dX6_steps_68 ?_
    refine zcalliP hH (va_runS (As := [.int x2, .int (M.1 38 x3.toNatClampNeg)]) (rest := [.int x3, .ref (G.1 38)]) hF (kX6_product l G M O x2 (M.1 38 x3.toNatClampNeg) _ h) (va_cwS 2 hts gX6_steps_X6_product rfl rfl rfl zdX6_product ⟨Nat.le_of_ble_eq_true rfl, Nat.le_of_ble_eq_true rfl⟩) (zpreS hSt hH [.int x2, .int (M.1 38 x3.toNatClampNeg)]) rfl rfl hl.1 rfl (lv_room (Nat.le_of_ble_eq_true rfl)) dX6_steps_69 ⟨Nat.zero_le _, Nat.zero_le _⟩) (fun r69 H locs h hH => ?_)
    obtain ⟨q72, h⟩ := h
    refine zast hF hSt hH 38 (by decide) rfl (zE_38 _) (x := r69) q72 dX6_steps_72 (fun H locs hH => ?_)
    refine lv_iinc (v := (x3 + (1 : Int32))) (lv' := [(3, .int (x3 + (1 : Int32))), (0, .ref (G.1 21)), (1, .int x1), (2, .int x2)]) hx hb dX6_steps_73 hl (k := 3) rfl rfl (by decide) rfl (fun ls hl => ?_)
    refine lv_goto (tgt := 51) hx hb dX6_steps_76 (by decide) ?_
    exact hag51 x1 x2 (x3 + (1 : Int32)) (zsi M 38 x3.toNatClampNeg r69) H locs ls h hH (lv_sub hl [1, 2, 3, 0] rfl)
def pX6_steps_L51 (post : Int32 → zM → Prop) (x1 : Int32) (x2 : Int32) (x3 : Int32) (M : zM) : Prop :=
  ∃ I : Nat → Int32 → Int32 → Int32 → zM → Prop, (∃ n, I n x1 x2 x3 M) ∧ ∀ n x1 x2 x3 M, I n x1 x2 x3 M → pX6_steps_b51 post (fun x1 x2 x3 M => ∃ k, k < n ∧ I k x1 x2 x3 M) x1 x2 x3 M
set_option maxHeartbeats 4000000 in
theorem wX6_steps_L51 {post : Int32 → zM → Prop}  (hF : CallFix p m c cX6_steps 6 s args wsX6_steps RX6) (hSt : zSt G s) (hret : zRz p l e ({ frames := 2, cells := 0, slots := 0, locals := 47 } : Room) s m args below meth c Q cX6_steps G false O post) (x1 : Int32) (x2 : Int32) (x3 : Int32) (M : zM) (H : Heap) (locs : List Loc) (ls : Array Slot) (hH : zH G false s H locs M O) (hl : lv_has ls 6 [(0, .ref (G.1 21)), (1, .int x1), (2, .int x2), (3, .int x3)]) (h : pX6_steps_L51 post x1 x2 x3 M) : W p l e ({ frames := 2, cells := 0, slots := 0, locals := 47 } : Room) s m args below meth c H locs 0 0 Q (F0 m 51 ls []) := by
  obtain ⟨I, ⟨n, hI⟩, hs⟩ := h
  have key : ∀ (n : Nat) (x1 : Int32) (x2 : Int32) (x3 : Int32) (M : zM) (H : Heap) (locs : List Loc) (ls : Array Slot), I n x1 x2 x3 M → zH G false s H locs M O → lv_has ls 6 [(0, .ref (G.1 21)), (1, .int x1), (2, .int x2), (3, .int x3)] → W p l e ({ frames := 2, cells := 0, slots := 0, locals := 47 } : Room) s m args below meth c H locs 0 0 Q (F0 m 51 ls []) := by
    intro n
    induction n using Nat.strongRecOn with
    | _ n ih =>
      intro x1 x2 x3 M H locs ls hI hH hl
      exact wX6_steps_b51 hF hSt hret (fun x1 x2 x3 M H locs ls h hH hl => by obtain ⟨k, hk, hI⟩ := h; exact ih k hk x1 x2 x3 M H locs ls hI hH hl) x1 x2 x3 M H locs ls hH hl (hs n x1 x2 x3 M hI)
  exact key n x1 x2 x3 M H locs ls hI hH hl
def pX6_steps_b29 (post : Int32 → zM → Prop) (x1 : Int32) (M : zM) : Prop :=
  (¬ (x1 = (M.1 21 3)) → vp_in x1 9 ∧ pX6_inverseOf (M.1 38 x1.toNatClampNeg) (fun r45 => pX6_steps_L51 post x1 r45 (0 : Int32) M)) ∧ (x1 = (M.1 21 3) → ((0 : Int32) = 0 ∨ (0 : Int32) = 1) ∧ post (0 : Int32) M)
set_option maxHeartbeats 4000000 in
set_option maxRecDepth 100000 in
theorem wX6_steps_b29 {post : Int32 → zM → Prop}  (hF : CallFix p m c cX6_steps 6 s args wsX6_steps RX6) (hSt : zSt G s) (hret : zRz p l e ({ frames := 2, cells := 0, slots := 0, locals := 47 } : Room) s m args below meth c Q cX6_steps G false O post) (x1 : Int32) (M : zM) (H : Heap) (locs : List Loc) (ls : Array Slot) (hH : zH G false s H locs M O) (hl : lv_has ls 6 [(0, .ref (G.1 21)), (1, .int x1)]) (h : pX6_steps_b29 post x1 M) : W p l e ({ frames := 2, cells := 0, slots := 0, locals := 47 } : Room) s m args below meth c H locs 0 0 Q (F0 m 29 ls []) := by
  obtain ⟨hx, hb, hml, hown, hts⟩ := id hF
  unfold pX6_steps_b29 at h
  refine lv_iload_n hx hb dX6_steps_29 rfl (lv_at hl 1 rfl) ?_
  refine lv_aload_n hx hb dX6_steps_30 rfl (lv_at hl 0 rfl) ?_
  refine zget (v := .int (M.1 21 3)) hF hSt hH 21 (by decide) rfl (zE_21 _ _ _) (C := RX6) (T := TX6) (N := 31) rfl znX6_steps_X6 3 (by decide) (List.mem_of_getElem? (i := 1) rfl) rfl dX6_steps_31 ?_
  refine lv_icmp_ne (tgt := 39) hx hb dX6_steps_34 (by decide) (fun q34 => ?_) (fun q34 => ?_)
  · have h := h.1 q34
    refine lv_aload_n hx hb dX6_steps_39 rfl (lv_at hl 0 rfl) ?_
    refine zget (v := .ref (G.1 38)) hF hSt hH 21 (by decide) rfl (zE_21 _ _ _) (C := RX6) (T := TX6) (N := 31) rfl znX6_steps_X6 23 (by decide) (List.mem_of_getElem? (i := 2) rfl) rfl dX6_steps_40 ?_
    refine lv_iload_n hx hb dX6_steps_43 rfl (lv_at hl 1 rfl) ?_
    obtain ⟨q44, h⟩ := h
    refine zald hF hSt hH 38 (by decide) rfl (zE_38 _ _ _) q44 dX6_steps_44 ?_
    refine zcalliP hH (va_runS (As := [.int (M.1 38 x1.toNatClampNeg)]) (rest := []) hF (kX6_inverseOf l G M O (M.1 38 x1.toNatClampNeg) _ h) (va_cwS 1 hts gX6_steps_X6_inverseOf rfl rfl rfl zdX6_inverseOf ⟨Nat.le_of_ble_eq_true rfl, Nat.le_of_ble_eq_true rfl⟩) (zpreS hSt hH [.int (M.1 38 x1.toNatClampNeg)]) rfl rfl hl.1 rfl (lv_room (Nat.le_of_ble_eq_true rfl)) dX6_steps_45 ⟨Nat.zero_le _, Nat.zero_le _⟩) (fun r45 H locs h hH => ?_)
    refine lv_istore_n (lv' := [(2, .int r45), (0, .ref (G.1 21)), (1, .int x1)]) hx hb dX6_steps_48 rfl hl (by decide) rfl (fun ls hl => ?_)
    refine lv_iconst (v := (0 : Int32)) hx hb dX6_steps_49 (by decide) ?_
    refine lv_istore_n (lv' := [(3, .int (0 : Int32)), (2, .int r45), (0, .ref (G.1 21)), (1, .int x1)]) hx hb dX6_steps_50 rfl hl (by decide) rfl (fun ls hl => ?_)
    exact wX6_steps_L51 hF hSt hret x1 r45 (0 : Int32) M H locs ls hH (lv_sub hl [2, 3, 1, 0] rfl) h
  · have h := h.2 q34
    refine lv_iconst (v := (0 : Int32)) hx hb dX6_steps_37 (by decide) ?_
    exact hret _ _ _ _ _ _ dX6_steps_38 h hH
def pX6_steps_b6 (post : Int32 → zM → Prop) (ag6 : Int32 → zM → Prop) (x1 : Int32) (M : zM) : Prop :=
  ((M.1 21 3) ≤ x1 → pX6_steps_b29 post x1 M) ∧ (¬ ((M.1 21 3) ≤ x1) → vp_in x1 9 ∧ (¬ ((M.1 38 x1.toNatClampNeg) = 0) → pX6_steps_b29 post x1 M) ∧ ((M.1 38 x1.toNatClampNeg) = 0 → ag6 (x1 + (1 : Int32)) M))
set_option maxHeartbeats 4000000 in
set_option maxRecDepth 100000 in
theorem wX6_steps_b6 {post : Int32 → zM → Prop} {ag6 : Int32 → zM → Prop} (hF : CallFix p m c cX6_steps 6 s args wsX6_steps RX6) (hSt : zSt G s) (hret : zRz p l e ({ frames := 2, cells := 0, slots := 0, locals := 47 } : Room) s m args below meth c Q cX6_steps G false O post) (hag6 : ∀ (x1 : Int32) (M : zM) (H : Heap) (locs : List Loc) (ls : Array Slot), ag6 x1 M → zH G false s H locs M O → lv_has ls 6 [(0, .ref (G.1 21)), (1, .int x1)] → W p l e ({ frames := 2, cells := 0, slots := 0, locals := 47 } : Room) s m args below meth c H locs 0 0 Q (F0 m 6 ls [])) (x1 : Int32) (M : zM) (H : Heap) (locs : List Loc) (ls : Array Slot) (hH : zH G false s H locs M O) (hl : lv_has ls 6 [(0, .ref (G.1 21)), (1, .int x1)]) (h : pX6_steps_b6 post ag6 x1 M) : W p l e ({ frames := 2, cells := 0, slots := 0, locals := 47 } : Room) s m args below meth c H locs 0 0 Q (F0 m 6 ls []) := by
  obtain ⟨hx, hb, hml, hown, hts⟩ := id hF
  unfold pX6_steps_b6 at h
  refine lv_iload_n hx hb dX6_steps_6 rfl (lv_at hl 1 rfl) ?_
  refine lv_aload_n hx hb dX6_steps_7 rfl (lv_at hl 0 rfl) ?_
  refine zget (v := .int (M.1 21 3)) hF hSt hH 21 (by decide) rfl (zE_21 _ _ _) (C := RX6) (T := TX6) (N := 31) rfl znX6_steps_X6 3 (by decide) (List.mem_of_getElem? (i := 1) rfl) rfl dX6_steps_8 ?_
  refine lv_icmp_ge (tgt := 29) hx hb dX6_steps_11 (by decide) (fun q11 => ?_) (fun q11 => ?_)
  · have h := h.1 q11
    exact wX6_steps_b29 hF hSt hret x1 M H locs ls hH (lv_sub hl [0, 1] rfl) h
  · have h := h.2 q11
    refine lv_aload_n hx hb dX6_steps_14 rfl (lv_at hl 0 rfl) ?_
    refine zget (v := .ref (G.1 38)) hF hSt hH 21 (by decide) rfl (zE_21 _ _ _) (C := RX6) (T := TX6) (N := 31) rfl znX6_steps_X6 23 (by decide) (List.mem_of_getElem? (i := 2) rfl) rfl dX6_steps_15 ?_
    refine lv_iload_n hx hb dX6_steps_18 rfl (lv_at hl 1 rfl) ?_
    obtain ⟨q19, h⟩ := h
    refine zald hF hSt hH 38 (by decide) rfl (zE_38 _ _ _) q19 dX6_steps_19 ?_
    refine lv_if_ne (tgt := 29) hx hb dX6_steps_20 (by decide) (fun q20 => ?_) (fun q20 => ?_)
    · have h := h.1 q20
      exact wX6_steps_b29 hF hSt hret x1 M H locs ls hH (lv_sub hl [0, 1] rfl) h
    · have h := h.2 q20
      refine lv_iinc (v := (x1 + (1 : Int32))) (lv' := [(1, .int (x1 + (1 : Int32))), (0, .ref (G.1 21))]) hx hb dX6_steps_23 hl (k := 1) rfl rfl (by decide) rfl (fun ls hl => ?_)
      refine lv_goto (tgt := 6) hx hb dX6_steps_26 (by decide) ?_
      exact hag6 (x1 + (1 : Int32)) M H locs ls h hH (lv_sub hl [1, 0] rfl)
def pX6_steps_L6 (post : Int32 → zM → Prop) (x1 : Int32) (M : zM) : Prop :=
  ∃ I : Nat → Int32 → zM → Prop, (∃ n, I n x1 M) ∧ ∀ n x1 M, I n x1 M → pX6_steps_b6 post (fun x1 M => ∃ k, k < n ∧ I k x1 M) x1 M
set_option maxHeartbeats 4000000 in
theorem wX6_steps_L6 {post : Int32 → zM → Prop}  (hF : CallFix p m c cX6_steps 6 s args wsX6_steps RX6) (hSt : zSt G s) (hret : zRz p l e ({ frames := 2, cells := 0, slots := 0, locals := 47 } : Room) s m args below meth c Q cX6_steps G false O post) (x1 : Int32) (M : zM) (H : Heap) (locs : List Loc) (ls : Array Slot) (hH : zH G false s H locs M O) (hl : lv_has ls 6 [(0, .ref (G.1 21)), (1, .int x1)]) (h : pX6_steps_L6 post x1 M) : W p l e ({ frames := 2, cells := 0, slots := 0, locals := 47 } : Room) s m args below meth c H locs 0 0 Q (F0 m 6 ls []) := by
  obtain ⟨I, ⟨n, hI⟩, hs⟩ := h
  have key : ∀ (n : Nat) (x1 : Int32) (M : zM) (H : Heap) (locs : List Loc) (ls : Array Slot), I n x1 M → zH G false s H locs M O → lv_has ls 6 [(0, .ref (G.1 21)), (1, .int x1)] → W p l e ({ frames := 2, cells := 0, slots := 0, locals := 47 } : Room) s m args below meth c H locs 0 0 Q (F0 m 6 ls []) := by
    intro n
    induction n using Nat.strongRecOn with
    | _ n ih =>
      intro x1 M H locs ls hI hH hl
      exact wX6_steps_b6 hF hSt hret (fun x1 M H locs ls h hH hl => by obtain ⟨k, hk, hI⟩ := h; exact ih k hk x1 M H locs ls hI hH hl) x1 M H locs ls hH hl (hs n x1 M hI)
  exact key n x1 M H locs ls hI hH hl
def pX6_steps (M : zM)  (post : Int32 → zM → Prop) : Prop :=
  pX6_reduce M  (fun M1 => pX6_steps_L6 post (0 : Int32) M1)
set_option maxHeartbeats 4000000 in
set_option maxRecDepth 100000 in
theorem wX6_steps {M : zM} {post : Int32 → zM → Prop} (hF : CallFix p m c cX6_steps 6 s args wsX6_steps RX6) (hSt : zSt G s) (hret : zRz p l e ({ frames := 2, cells := 0, slots := 0, locals := 47 } : Room) s m args below meth c Q cX6_steps G false O post)  (H : Heap) (locs : List Loc) (ls : Array Slot) (hH : zH G false s H locs M O) (hl : lv_has ls 6 [(0, .ref (G.1 21))]) (h : pX6_steps M  post) : W p l e ({ frames := 2, cells := 0, slots := 0, locals := 47 } : Room) s m args below meth c H locs 0 0 Q (F0 m 0 ls []) := by
  obtain ⟨hx, hb, hml, hown, hts⟩ := id hF
  unfold pX6_steps at h
  refine lv_aload_n hx hb dX6_steps_0 rfl (lv_at hl 0 rfl) ?_
  refine zcallv hH (va_runV (As := []) (rest := []) hF (kX6_reduce l G M O _ h) (cwV 0 hts gX6_steps_X6_reduce rfl rfl rfl ⟨rfl, zdX6_reduce⟩ ⟨Nat.le_of_ble_eq_true rfl, Nat.le_of_ble_eq_true rfl⟩) (zpreV hSt hH 21 (by decide) rfl (zE_21 _ _ _) (q := (RX6, TX6, 31)) rfl []) rfl rfl hl.1 rfl (lv_room (Nat.le_of_ble_eq_true rfl)) dX6_steps_1 ⟨Nat.zero_le _, Nat.zero_le _⟩) (fun M1 H locs h hH => ?_)
  refine lv_iconst (v := (0 : Int32)) hx hb dX6_steps_4 (by decide) ?_
  refine lv_istore_n (lv' := [(1, .int (0 : Int32)), (0, .ref (G.1 21))]) hx hb dX6_steps_5 rfl hl (by decide) rfl (fun ls hl => ?_)
  exact wX6_steps_L6 hF hSt hret (0 : Int32) M1 H locs ls hH (lv_sub hl [1, 0] rfl) h
set_option maxRecDepth 100000 in
theorem kX6_steps (l : Launch) (G : zG) (M O : zM)  (post : Int32 → zM → Prop) (h : pX6_steps M  post) : Met l yX6_steps wsX6_steps ({ frames := 2, cells := 0, slots := 0, locals := 47 } : Room) (zPc G false M O [.ref (G.1 21)]) (va_Qi post (zB G false O) (zAA G)) 0 0 (zAA G) :=
  zmet_z (by decide) rfl (Nat.le_of_ble_eq_true rfl) (fun hF hSt hret H locs ls hH hl => wX6_steps hF hSt hret  H locs ls hH hl h)
end
