theorem znX4_reach_X4 : ∀ w ∈ wsX40, w ∈ wsX4_reach := fun _ h => List.mem_cons_of_mem _ (List.mem_append_left _ (List.mem_append_right _ h))
theorem znX4_reach_X2 : ∀ w ∈ wsX20, w ∈ wsX4_reach := fun _ h => List.mem_cons_of_mem _ (List.mem_append_right _ h)
theorem zdX4_reach : yX4_reach.cls ≠ "java/lang/invoke/MethodHandle" ∧ yX4_reach.cls ≠ "java/lang/invoke/VarHandle" ∧ (parseMethodDescriptor yX4_reach.desc).map (fun d => d.parameters.length) = some 0 := by decide +kernel
-- MixingRelays$Ways reach()V
section
variable {p : Program} {l : Launch} {e : Env} {s : State} {m : MethodId} {args : Array Value} {below : List Frame} {meth : Method} {c : Code} {Q : State → Prop} {G : zG} {O : zM}
def pX4_reach_b78 (post : zM → Prop) (M : zM) : Prop :=
  post M
set_option maxHeartbeats 4000000 in
set_option maxRecDepth 100000 in
theorem wX4_reach_b78 {post : zM → Prop}  (hF : CallFix p m c cX4_reach 4 s args wsX4_reach RX4) (hSt : zSt G s) (hret : zRv p l e ({ frames := 2, cells := 0, slots := 0, locals := 45 } : Room) s m args below meth c Q cX4_reach G true O post) (M : zM) (H : Heap) (locs : List Loc) (ls : Array Slot) (hH : zH G true s H locs M O) (hl : lv_has ls 4 []) (h : pX4_reach_b78 post M) : W p l e ({ frames := 2, cells := 0, slots := 0, locals := 45 } : Room) s m args below meth c H locs 0 0 Q (F0 m 78 ls []) := by
  obtain ⟨hx, hb, hml, hown, hts⟩ := id hF
  unfold pX4_reach_b78 at h
  exact hret _ _ _ _ _ dX4_reach_78 h hH
def pX4_reach_b55 (post : zM → Prop) (ag7 : Int32 → zM → Prop) (ag25 : Int32 → Int32 → Int32 → zM → Prop) (x1 : Int32) (x2 : Int32) (x3 : Int32) (M : zM) : Prop :=
  ag25 x1 x2 (x3 + (1 : Int32)) M
set_option maxHeartbeats 4000000 in
set_option maxRecDepth 100000 in
theorem wX4_reach_b55 {post : zM → Prop} {ag7 : Int32 → zM → Prop} {ag25 : Int32 → Int32 → Int32 → zM → Prop} (hF : CallFix p m c cX4_reach 4 s args wsX4_reach RX4) (hSt : zSt G s) (hret : zRv p l e ({ frames := 2, cells := 0, slots := 0, locals := 45 } : Room) s m args below meth c Q cX4_reach G true O post) (hag7 : ∀ (x1 : Int32) (M : zM) (H : Heap) (locs : List Loc) (ls : Array Slot), ag7 x1 M → zH G true s H locs M O → lv_has ls 4 [(0, .ref (G.1 2)), (1, .int x1)] → W p l e ({ frames := 2, cells := 0, slots := 0, locals := 45 } : Room) s m args below meth c H locs 0 0 Q (F0 m 7 ls [])) (hag25 : ∀ (x1 : Int32) (x2 : Int32) (x3 : Int32) (M : zM) (H : Heap) (locs : List Loc) (ls : Array Slot), ag25 x1 x2 x3 M → zH G true s H locs M O → lv_has ls 4 [(0, .ref (G.1 2)), (1, .int x1), (2, .int x2), (3, .int x3)] → W p l e ({ frames := 2, cells := 0, slots := 0, locals := 45 } : Room) s m args below meth c H locs 0 0 Q (F0 m 25 ls [])) (x1 : Int32) (x2 : Int32) (x3 : Int32) (M : zM) (H : Heap) (locs : List Loc) (ls : Array Slot) (hH : zH G true s H locs M O) (hl : lv_has ls 4 [(0, .ref (G.1 2)), (1, .int x1), (2, .int x2), (3, .int x3)]) (h : pX4_reach_b55 post ag7 ag25 x1 x2 x3 M) : W p l e ({ frames := 2, cells := 0, slots := 0, locals := 45 } : Room) s m args below meth c H locs 0 0 Q (F0 m 55 ls []) := by
  obtain ⟨hx, hb, hml, hown, hts⟩ := id hF
  unfold pX4_reach_b55 at h
  refine lv_iinc (v := (x3 + (1 : Int32))) (lv' := [(3, .int (x3 + (1 : Int32))), (0, .ref (G.1 2)), (1, .int x1), (2, .int x2)]) hx hb dX4_reach_55 hl (k := 3) rfl rfl (by decide) rfl (fun ls hl => ?_)
  refine lv_goto (tgt := 25) hx hb dX4_reach_58 (by decide) ?_
  exact hag25 x1 x2 (x3 + (1 : Int32)) M H locs ls h hH (lv_sub hl [1, 2, 3, 0] rfl)
def pX4_reach_b25 (post : zM → Prop) (ag7 : Int32 → zM → Prop) (ag25 : Int32 → Int32 → Int32 → zM → Prop) (x1 : Int32) (x2 : Int32) (x3 : Int32) (M : zM) : Prop :=
  ((M.1 1 1) ≤ x3 → (¬ ((M.1 2 3) = x2) → ag7 (x1 + (1 : Int32)) M) ∧ ((M.1 2 3) = x2 → pX4_reach_b78 post M)) ∧ (¬ ((M.1 1 1) ≤ x3) → pX5_flag (M.1 1 5) x3 (fun r44 => (¬ (r44 = 0) → pX4_reach_b55 post ag7 ag25 x1 x2 x3 M) ∧ (r44 = 0 → pX4_reachBy M x3 (fun M52 => pX4_reach_b55 post ag7 ag25 x1 x2 x3 M52))))
set_option maxHeartbeats 4000000 in
set_option maxRecDepth 100000 in
theorem wX4_reach_b25 {post : zM → Prop} {ag7 : Int32 → zM → Prop} {ag25 : Int32 → Int32 → Int32 → zM → Prop} (hF : CallFix p m c cX4_reach 4 s args wsX4_reach RX4) (hSt : zSt G s) (hret : zRv p l e ({ frames := 2, cells := 0, slots := 0, locals := 45 } : Room) s m args below meth c Q cX4_reach G true O post) (hag7 : ∀ (x1 : Int32) (M : zM) (H : Heap) (locs : List Loc) (ls : Array Slot), ag7 x1 M → zH G true s H locs M O → lv_has ls 4 [(0, .ref (G.1 2)), (1, .int x1)] → W p l e ({ frames := 2, cells := 0, slots := 0, locals := 45 } : Room) s m args below meth c H locs 0 0 Q (F0 m 7 ls [])) (hag25 : ∀ (x1 : Int32) (x2 : Int32) (x3 : Int32) (M : zM) (H : Heap) (locs : List Loc) (ls : Array Slot), ag25 x1 x2 x3 M → zH G true s H locs M O → lv_has ls 4 [(0, .ref (G.1 2)), (1, .int x1), (2, .int x2), (3, .int x3)] → W p l e ({ frames := 2, cells := 0, slots := 0, locals := 45 } : Room) s m args below meth c H locs 0 0 Q (F0 m 25 ls [])) (x1 : Int32) (x2 : Int32) (x3 : Int32) (M : zM) (H : Heap) (locs : List Loc) (ls : Array Slot) (hH : zH G true s H locs M O) (hl : lv_has ls 4 [(0, .ref (G.1 2)), (1, .int x1), (2, .int x2), (3, .int x3)]) (h : pX4_reach_b25 post ag7 ag25 x1 x2 x3 M) : W p l e ({ frames := 2, cells := 0, slots := 0, locals := 45 } : Room) s m args below meth c H locs 0 0 Q (F0 m 25 ls []) := by
  obtain ⟨hx, hb, hml, hown, hts⟩ := id hF
  unfold pX4_reach_b25 at h
  refine lv_iload_n hx hb dX4_reach_25 rfl (lv_at hl 3 rfl) ?_
  refine lv_aload_n hx hb dX4_reach_26 rfl (lv_at hl 0 rfl) ?_
  refine zget (v := .ref (G.1 1)) hF hSt hH 2 (by decide) rfl (zE_2 _ _ _) (C := RX4) (T := TX4) (N := 4) rfl znX4_reach_X4 0 (by decide) (List.mem_of_getElem? (i := 2) rfl) rfl dX4_reach_27 ?_
  refine zget (v := .int (M.1 1 1)) hF hSt hH 1 (by decide) rfl (zE_1 _ _ _) (C := RX2) (T := TX2) (N := 16) rfl znX4_reach_X2 1 (by decide) (List.mem_of_getElem? (i := 4) rfl) rfl dX4_reach_30 ?_
  refine lv_icmp_ge (tgt := 61) hx hb dX4_reach_33 (by decide) (fun q33 => ?_) (fun q33 => ?_)
  · have h := h.1 q33
    refine lv_aload_n hx hb dX4_reach_61 rfl (lv_at hl 0 rfl) ?_
    refine zget (v := .int (M.1 2 3)) hF hSt hH 2 (by decide) rfl (zE_2 _ _ _) (C := RX4) (T := TX4) (N := 4) rfl znX4_reach_X4 3 (by decide) (List.mem_of_getElem? (i := 1) rfl) rfl dX4_reach_62 ?_
    refine lv_iload_n hx hb dX4_reach_65 rfl (lv_at hl 2 rfl) ?_
    refine lv_icmp_ne (tgt := 72) hx hb dX4_reach_66 (by decide) (fun q66 => ?_) (fun q66 => ?_)
    · have h := h.1 q66
      refine lv_iinc (v := (x1 + (1 : Int32))) (lv' := [(1, .int (x1 + (1 : Int32))), (0, .ref (G.1 2)), (2, .int x2), (3, .int x3)]) hx hb dX4_reach_72 hl (k := 1) rfl rfl (by decide) rfl (fun ls hl => ?_)
      refine lv_goto (tgt := 7) hx hb dX4_reach_75 (by decide) ?_
      exact hag7 (x1 + (1 : Int32)) M H locs ls h hH (lv_sub hl [1, 0] rfl)
    · have h := h.2 q66
      refine lv_goto (tgt := 78) hx hb dX4_reach_69 (by decide) ?_
      exact wX4_reach_b78 hF hSt hret M H locs ls hH (lv_sub hl [] rfl) h
  · have h := h.2 q33
    refine lv_aload_n hx hb dX4_reach_36 rfl (lv_at hl 0 rfl) ?_
    refine zget (v := .ref (G.1 1)) hF hSt hH 2 (by decide) rfl (zE_2 _ _ _) (C := RX4) (T := TX4) (N := 4) rfl znX4_reach_X4 0 (by decide) (List.mem_of_getElem? (i := 2) rfl) rfl dX4_reach_37 ?_
    refine zget (v := .int (M.1 1 5)) hF hSt hH 1 (by decide) rfl (zE_1 _ _ _) (C := RX2) (T := TX2) (N := 16) rfl znX4_reach_X2 5 (by decide) (List.mem_of_getElem? (i := 5) rfl) rfl dX4_reach_40 ?_
    refine lv_iload_n hx hb dX4_reach_43 rfl (lv_at hl 3 rfl) ?_
    refine zcalliP hH (va_runSN (As := [.int (M.1 1 5), .int x3]) (rest := []) hF (kX5_flag l G M O (M.1 1 5) x3 _ h) ⟨va_cnB 2 hts gX4_reach_X5_flag_n34 rfl rfl rfl (hSt.2.2.1 _ zNest_X4_34) (hts _ (List.mem_of_getElem? (i := 7) rfl)) zdX5_flag ⟨Nat.le_of_ble_eq_true rfl, Nat.le_of_ble_eq_true rfl⟩, hts _ (List.mem_of_getElem? (i := 6) rfl), trivial⟩ (zpreS hSt hH [.int (M.1 1 5), .int x3]) rfl rfl hl.1 rfl (lv_room (Nat.le_of_ble_eq_true rfl)) dX4_reach_44 ⟨Nat.zero_le _, Nat.zero_le _⟩) (fun r44 H locs h hH => ?_)
    refine lv_if_ne (tgt := 55) hx hb dX4_reach_47 (by decide) (fun q47 => ?_) (fun q47 => ?_)
    · have h := h.1 q47
      exact wX4_reach_b55 hF hSt hret hag7 hag25 x1 x2 x3 M H locs ls hH (lv_sub hl [0, 1, 2, 3] rfl) h
    · have h := h.2 q47
      refine lv_aload_n hx hb dX4_reach_50 rfl (lv_at hl 0 rfl) ?_
      refine lv_iload_n hx hb dX4_reach_51 rfl (lv_at hl 3 rfl) ?_
      refine zcallv hH (va_runV (As := [.int x3]) (rest := []) hF (kX4_reachBy l G M O x3 _ h) (cwV 1 hts gX4_reach_X4_reachBy rfl rfl rfl ⟨rfl, zdX4_reachBy⟩ ⟨Nat.le_of_ble_eq_true rfl, Nat.le_of_ble_eq_true rfl⟩) (zpreV hSt hH 2 (by decide) rfl (zE_2 _ _ _) (q := (RX4, TX4, 4)) rfl [.int x3]) rfl rfl hl.1 rfl (lv_room (Nat.le_of_ble_eq_true rfl)) dX4_reach_52 ⟨Nat.zero_le _, Nat.zero_le _⟩) (fun M52 H locs h hH => ?_)
      exact wX4_reach_b55 hF hSt hret hag7 hag25 x1 x2 x3 M52 H locs ls hH (lv_sub hl [0, 1, 2, 3] rfl) h
def pX4_reach_L25 (post : zM → Prop) (ag7 : Int32 → zM → Prop) (x1 : Int32) (x2 : Int32) (x3 : Int32) (M : zM) : Prop :=
  ∃ I : Nat → Int32 → Int32 → Int32 → zM → Prop, (∃ n, I n x1 x2 x3 M) ∧ ∀ n x1 x2 x3 M, I n x1 x2 x3 M → pX4_reach_b25 post ag7 (fun x1 x2 x3 M => ∃ k, k < n ∧ I k x1 x2 x3 M) x1 x2 x3 M
set_option maxHeartbeats 4000000 in
theorem wX4_reach_L25 {post : zM → Prop} {ag7 : Int32 → zM → Prop} (hF : CallFix p m c cX4_reach 4 s args wsX4_reach RX4) (hSt : zSt G s) (hret : zRv p l e ({ frames := 2, cells := 0, slots := 0, locals := 45 } : Room) s m args below meth c Q cX4_reach G true O post) (hag7 : ∀ (x1 : Int32) (M : zM) (H : Heap) (locs : List Loc) (ls : Array Slot), ag7 x1 M → zH G true s H locs M O → lv_has ls 4 [(0, .ref (G.1 2)), (1, .int x1)] → W p l e ({ frames := 2, cells := 0, slots := 0, locals := 45 } : Room) s m args below meth c H locs 0 0 Q (F0 m 7 ls [])) (x1 : Int32) (x2 : Int32) (x3 : Int32) (M : zM) (H : Heap) (locs : List Loc) (ls : Array Slot) (hH : zH G true s H locs M O) (hl : lv_has ls 4 [(0, .ref (G.1 2)), (1, .int x1), (2, .int x2), (3, .int x3)]) (h : pX4_reach_L25 post ag7 x1 x2 x3 M) : W p l e ({ frames := 2, cells := 0, slots := 0, locals := 45 } : Room) s m args below meth c H locs 0 0 Q (F0 m 25 ls []) := by
  obtain ⟨I, ⟨n, hI⟩, hs⟩ := h
  have key : ∀ (n : Nat) (x1 : Int32) (x2 : Int32) (x3 : Int32) (M : zM) (H : Heap) (locs : List Loc) (ls : Array Slot), I n x1 x2 x3 M → zH G true s H locs M O → lv_has ls 4 [(0, .ref (G.1 2)), (1, .int x1), (2, .int x2), (3, .int x3)] → W p l e ({ frames := 2, cells := 0, slots := 0, locals := 45 } : Room) s m args below meth c H locs 0 0 Q (F0 m 25 ls []) := by
    intro n
    induction n using Nat.strongRecOn with
    | _ n ih =>
      intro x1 x2 x3 M H locs ls hI hH hl
      exact wX4_reach_b25 hF hSt hret hag7 (fun x1 x2 x3 M H locs ls h hH hl => by obtain ⟨k, hk, hI⟩ := h; exact ih k hk x1 x2 x3 M H locs ls hI hH hl) x1 x2 x3 M H locs ls hH hl (hs n x1 x2 x3 M hI)
  exact key n x1 x2 x3 M H locs ls hI hH hl
def pX4_reach_b7 (post : zM → Prop) (ag7 : Int32 → zM → Prop) (x1 : Int32) (M : zM) : Prop :=
  ((M.1 1 0) ≤ x1 → pX4_reach_b78 post M) ∧ (¬ ((M.1 1 0) ≤ x1) → pX4_reach_L25 post ag7 x1 (M.1 2 3) (0 : Int32) M)
set_option maxHeartbeats 4000000 in
set_option maxRecDepth 100000 in
theorem wX4_reach_b7 {post : zM → Prop} {ag7 : Int32 → zM → Prop} (hF : CallFix p m c cX4_reach 4 s args wsX4_reach RX4) (hSt : zSt G s) (hret : zRv p l e ({ frames := 2, cells := 0, slots := 0, locals := 45 } : Room) s m args below meth c Q cX4_reach G true O post) (hag7 : ∀ (x1 : Int32) (M : zM) (H : Heap) (locs : List Loc) (ls : Array Slot), ag7 x1 M → zH G true s H locs M O → lv_has ls 4 [(0, .ref (G.1 2)), (1, .int x1)] → W p l e ({ frames := 2, cells := 0, slots := 0, locals := 45 } : Room) s m args below meth c H locs 0 0 Q (F0 m 7 ls [])) (x1 : Int32) (M : zM) (H : Heap) (locs : List Loc) (ls : Array Slot) (hH : zH G true s H locs M O) (hl : lv_has ls 4 [(0, .ref (G.1 2)), (1, .int x1)]) (h : pX4_reach_b7 post ag7 x1 M) : W p l e ({ frames := 2, cells := 0, slots := 0, locals := 45 } : Room) s m args below meth c H locs 0 0 Q (F0 m 7 ls []) := by
  obtain ⟨hx, hb, hml, hown, hts⟩ := id hF
  unfold pX4_reach_b7 at h
  refine lv_iload_n hx hb dX4_reach_7 rfl (lv_at hl 1 rfl) ?_
  refine lv_aload_n hx hb dX4_reach_8 rfl (lv_at hl 0 rfl) ?_
  refine zget (v := .ref (G.1 1)) hF hSt hH 2 (by decide) rfl (zE_2 _ _ _) (C := RX4) (T := TX4) (N := 4) rfl znX4_reach_X4 0 (by decide) (List.mem_of_getElem? (i := 2) rfl) rfl dX4_reach_9 ?_
  refine zget (v := .int (M.1 1 0)) hF hSt hH 1 (by decide) rfl (zE_1 _ _ _) (C := RX2) (T := TX2) (N := 16) rfl znX4_reach_X2 0 (by decide) (List.mem_of_getElem? (i := 3) rfl) rfl dX4_reach_12 ?_
  refine lv_icmp_ge (tgt := 78) hx hb dX4_reach_15 (by decide) (fun q15 => ?_) (fun q15 => ?_)
  · have h := h.1 q15
    exact wX4_reach_b78 hF hSt hret M H locs ls hH (lv_sub hl [] rfl) h
  · have h := h.2 q15
    refine lv_aload_n hx hb dX4_reach_18 rfl (lv_at hl 0 rfl) ?_
    refine zget (v := .int (M.1 2 3)) hF hSt hH 2 (by decide) rfl (zE_2 _ _ _) (C := RX4) (T := TX4) (N := 4) rfl znX4_reach_X4 3 (by decide) (List.mem_of_getElem? (i := 1) rfl) rfl dX4_reach_19 ?_
    refine lv_istore_n (lv' := [(2, .int (M.1 2 3)), (0, .ref (G.1 2)), (1, .int x1)]) hx hb dX4_reach_22 rfl hl (by decide) rfl (fun ls hl => ?_)
    refine lv_iconst (v := (0 : Int32)) hx hb dX4_reach_23 (by decide) ?_
    refine lv_istore_n (lv' := [(3, .int (0 : Int32)), (2, .int (M.1 2 3)), (0, .ref (G.1 2)), (1, .int x1)]) hx hb dX4_reach_24 rfl hl (by decide) rfl (fun ls hl => ?_)
    exact wX4_reach_L25 hF hSt hret hag7 x1 (M.1 2 3) (0 : Int32) M H locs ls hH (lv_sub hl [2, 3, 1, 0] rfl) h
def pX4_reach_L7 (post : zM → Prop) (x1 : Int32) (M : zM) : Prop :=
  ∃ I : Nat → Int32 → zM → Prop, (∃ n, I n x1 M) ∧ ∀ n x1 M, I n x1 M → pX4_reach_b7 post (fun x1 M => ∃ k, k < n ∧ I k x1 M) x1 M
set_option maxHeartbeats 4000000 in
theorem wX4_reach_L7 {post : zM → Prop}  (hF : CallFix p m c cX4_reach 4 s args wsX4_reach RX4) (hSt : zSt G s) (hret : zRv p l e ({ frames := 2, cells := 0, slots := 0, locals := 45 } : Room) s m args below meth c Q cX4_reach G true O post) (x1 : Int32) (M : zM) (H : Heap) (locs : List Loc) (ls : Array Slot) (hH : zH G true s H locs M O) (hl : lv_has ls 4 [(0, .ref (G.1 2)), (1, .int x1)]) (h : pX4_reach_L7 post x1 M) : W p l e ({ frames := 2, cells := 0, slots := 0, locals := 45 } : Room) s m args below meth c H locs 0 0 Q (F0 m 7 ls []) := by
  obtain ⟨I, ⟨n, hI⟩, hs⟩ := h
  have key : ∀ (n : Nat) (x1 : Int32) (M : zM) (H : Heap) (locs : List Loc) (ls : Array Slot), I n x1 M → zH G true s H locs M O → lv_has ls 4 [(0, .ref (G.1 2)), (1, .int x1)] → W p l e ({ frames := 2, cells := 0, slots := 0, locals := 45 } : Room) s m args below meth c H locs 0 0 Q (F0 m 7 ls []) := by
    intro n
    induction n using Nat.strongRecOn with
    | _ n ih =>
      intro x1 M H locs ls hI hH hl
      exact wX4_reach_b7 hF hSt hret (fun x1 M H locs ls h hH hl => by obtain ⟨k, hk, hI⟩ := h; exact ih k hk x1 M H locs ls hI hH hl) x1 M H locs ls hH hl (hs n x1 M hI)
  exact key n x1 M H locs ls hI hH hl
def pX4_reach (M : zM)  (post : zM → Prop) : Prop :=
  pX4_reach_L7 post (0 : Int32) (zsi M 2 3 (1 : Int32))
set_option maxHeartbeats 4000000 in
set_option maxRecDepth 100000 in
theorem wX4_reach {M : zM} {post : zM → Prop} (hF : CallFix p m c cX4_reach 4 s args wsX4_reach RX4) (hSt : zSt G s) (hret : zRv p l e ({ frames := 2, cells := 0, slots := 0, locals := 45 } : Room) s m args below meth c Q cX4_reach G true O post)  (H : Heap) (locs : List Loc) (ls : Array Slot) (hH : zH G true s H locs M O) (hl : lv_has ls 4 [(0, .ref (G.1 2))]) (h : pX4_reach M  post) : W p l e ({ frames := 2, cells := 0, slots := 0, locals := 45 } : Room) s m args below meth c H locs 0 0 Q (F0 m 0 ls []) := by
  obtain ⟨hx, hb, hml, hown, hts⟩ := id hF
  unfold pX4_reach at h
  refine lv_aload_n hx hb dX4_reach_0 rfl (lv_at hl 0 rfl) ?_
  refine lv_iconst (v := (1 : Int32)) hx hb dX4_reach_1 (by decide) ?_
  refine zput hF hSt hH 2 (by decide) rfl (zE_2 _ _ _) (C := RX4) (T := TX4) (N := 4) rfl znX4_reach_X4 tyX4 tyX4_ok nmX4 3 (by decide) (List.mem_of_getElem? (i := 1) rfl) rfl (by decide +kernel) (Nat.le_of_ble_eq_true rfl) (x := (1 : Int32)) rfl dX4_reach_2 (fun H locs hH => ?_)
  refine lv_iconst (v := (0 : Int32)) hx hb dX4_reach_5 (by decide) ?_
  refine lv_istore_n (lv' := [(1, .int (0 : Int32)), (0, .ref (G.1 2))]) hx hb dX4_reach_6 rfl hl (by decide) rfl (fun ls hl => ?_)
  exact wX4_reach_L7 hF hSt hret (0 : Int32) (zsi M 2 3 (1 : Int32)) H locs ls hH (lv_sub hl [1, 0] rfl) h
set_option maxRecDepth 100000 in
theorem kX4_reach (l : Launch) (G : zG) (M O : zM)  (post : zM → Prop) (h : pX4_reach M  post) : Met l yX4_reach wsX4_reach ({ frames := 2, cells := 0, slots := 0, locals := 45 } : Room) (zPc G true M O [.ref (G.1 2)]) (va_Qv post (zB G true O) (zAA G)) 0 0 (zAA G) :=
  zmet_v (by decide) rfl (Nat.le_of_ble_eq_true rfl) (fun hF hSt hret H locs ls hH hl => wX4_reach hF hSt hret  H locs ls hH hl h)
end
theorem znX4_turnWayTo_X4 : ∀ w ∈ wsX40, w ∈ wsX4_turnWayTo := fun _ h => List.mem_cons_of_mem _ (List.mem_append_left _ (List.mem_append_right _ h))
theorem znX4_turnWayTo_X2 : ∀ w ∈ wsX20, w ∈ wsX4_turnWayTo := fun _ h => List.mem_cons_of_mem _ (List.mem_append_right _ h)
theorem zdX4_turnWayTo : yX4_turnWayTo.cls ≠ "java/lang/invoke/MethodHandle" ∧ yX4_turnWayTo.cls ≠ "java/lang/invoke/VarHandle" ∧ (parseMethodDescriptor yX4_turnWayTo.desc).map (fun d => d.parameters.length) = some 1 := by decide +kernel
-- MixingRelays$Ways turnWayTo(I)V
section
variable {p : Program} {l : Launch} {e : Env} {s : State} {m : MethodId} {args : Array Value} {below : List Frame} {meth : Method} {c : Code} {Q : State → Prop} {G : zG} {O : zM}
def pX4_turnWayTo_b84 (post : zM → Prop) (M : zM) : Prop :=
  post M
set_option maxHeartbeats 4000000 in
set_option maxRecDepth 100000 in
theorem wX4_turnWayTo_b84 {post : zM → Prop}  (hF : CallFix p m c cX4_turnWayTo 5 s args wsX4_turnWayTo RX4) (hSt : zSt G s) (hret : zRv p l e ({ frames := 0, cells := 0, slots := 0, locals := 0 } : Room) s m args below meth c Q cX4_turnWayTo G true O post) (M : zM) (H : Heap) (locs : List Loc) (ls : Array Slot) (hH : zH G true s H locs M O) (hl : lv_has ls 5 []) (h : pX4_turnWayTo_b84 post M) : W p l e ({ frames := 0, cells := 0, slots := 0, locals := 0 } : Room) s m args below meth c H locs 0 0 Q (F0 m 84 ls []) := by
  obtain ⟨hx, hb, hml, hown, hts⟩ := id hF
  unfold pX4_turnWayTo_b84 at h
  exact hret _ _ _ _ _ dX4_turnWayTo_84 h hH
def pX4_turnWayTo_b77 (post : zM → Prop) (ag4 : Int32 → Int32 → zM → Prop) (x3 : Int32) (t0 : Int32) (M : zM) : Prop :=
  ag4 t0 (x3 + (1 : Int32)) M
set_option maxHeartbeats 4000000 in
set_option maxRecDepth 100000 in
theorem wX4_turnWayTo_b77 {post : zM → Prop} {ag4 : Int32 → Int32 → zM → Prop} (hF : CallFix p m c cX4_turnWayTo 5 s args wsX4_turnWayTo RX4) (hSt : zSt G s) (hret : zRv p l e ({ frames := 0, cells := 0, slots := 0, locals := 0 } : Room) s m args below meth c Q cX4_turnWayTo G true O post) (hag4 : ∀ (x2 : Int32) (x3 : Int32) (M : zM) (H : Heap) (locs : List Loc) (ls : Array Slot), ag4 x2 x3 M → zH G true s H locs M O → lv_has ls 5 [(0, .ref (G.1 2)), (2, .int x2), (3, .int x3)] → W p l e ({ frames := 0, cells := 0, slots := 0, locals := 0 } : Room) s m args below meth c H locs 0 0 Q (F0 m 4 ls [])) (x3 : Int32) (t0 : Int32) (M : zM) (H : Heap) (locs : List Loc) (ls : Array Slot) (hH : zH G true s H locs M O) (hl : lv_has ls 5 [(0, .ref (G.1 2)), (3, .int x3)]) (h : pX4_turnWayTo_b77 post ag4 x3 t0 M) : W p l e ({ frames := 0, cells := 0, slots := 0, locals := 0 } : Room) s m args below meth c H locs 0 0 Q (F0 m 77 ls [.int t0]) := by
  obtain ⟨hx, hb, hml, hown, hts⟩ := id hF
  unfold pX4_turnWayTo_b77 at h
  refine lv_istore_n (lv' := [(2, .int t0), (0, .ref (G.1 2)), (3, .int x3)]) hx hb dX4_turnWayTo_77 rfl hl (by decide) rfl (fun ls hl => ?_)
  refine lv_iinc (v := (x3 + (1 : Int32))) (lv' := [(3, .int (x3 + (1 : Int32))), (2, .int t0), (0, .ref (G.1 2))]) hx hb dX4_turnWayTo_78 hl (k := 2) rfl rfl (by decide) rfl (fun ls hl => ?_)
  refine lv_goto (tgt := 4) hx hb dX4_turnWayTo_81 (by decide) ?_
  exact hag4 t0 (x3 + (1 : Int32)) M H locs ls h hH (lv_sub hl [2, 1, 0] rfl)
def pX4_turnWayTo_b4 (post : zM → Prop) (ag4 : Int32 → Int32 → zM → Prop) (x2 : Int32) (x3 : Int32) (M : zM) : Prop :=
  ((M.1 1 0) ≤ x3 → pX4_turnWayTo_b84 post M) ∧ (¬ ((M.1 1 0) ≤ x3) → (x2 = 0 → pX4_turnWayTo_b84 post M) ∧ (¬ (x2 = 0) → vp_in x2 12 ∧ vp_in (M.1 16 x2.toNatClampNeg) 30 ∧ (¬ (((zsi M 2 2 ((M.1 2 2) ^^^ ((1 : Int32) <<< ((M.1 16 x2.toNatClampNeg) &&& 31)))).1 7 ((M.1 16 x2.toNatClampNeg)).toNatClampNeg) = x2) → vp_in (M.1 16 x2.toNatClampNeg) 30 ∧ pX4_turnWayTo_b77 post ag4 x3 ((zsi M 2 2 ((M.1 2 2) ^^^ ((1 : Int32) <<< ((M.1 16 x2.toNatClampNeg) &&& 31)))).1 7 ((M.1 16 x2.toNatClampNeg)).toNatClampNeg) (zsi M 2 2 ((M.1 2 2) ^^^ ((1 : Int32) <<< ((M.1 16 x2.toNatClampNeg) &&& 31))))) ∧ (((zsi M 2 2 ((M.1 2 2) ^^^ ((1 : Int32) <<< ((M.1 16 x2.toNatClampNeg) &&& 31)))).1 7 ((M.1 16 x2.toNatClampNeg)).toNatClampNeg) = x2 → vp_in (M.1 16 x2.toNatClampNeg) 30 ∧ pX4_turnWayTo_b77 post ag4 x3 ((zsi M 2 2 ((M.1 2 2) ^^^ ((1 : Int32) <<< ((M.1 16 x2.toNatClampNeg) &&& 31)))).1 6 ((M.1 16 x2.toNatClampNeg)).toNatClampNeg) (zsi M 2 2 ((M.1 2 2) ^^^ ((1 : Int32) <<< ((M.1 16 x2.toNatClampNeg) &&& 31)))))))
set_option maxHeartbeats 4000000 in
set_option maxRecDepth 100000 in
theorem wX4_turnWayTo_b4 {post : zM → Prop} {ag4 : Int32 → Int32 → zM → Prop} (hF : CallFix p m c cX4_turnWayTo 5 s args wsX4_turnWayTo RX4) (hSt : zSt G s) (hret : zRv p l e ({ frames := 0, cells := 0, slots := 0, locals := 0 } : Room) s m args below meth c Q cX4_turnWayTo G true O post) (hag4 : ∀ (x2 : Int32) (x3 : Int32) (M : zM) (H : Heap) (locs : List Loc) (ls : Array Slot), ag4 x2 x3 M → zH G true s H locs M O → lv_has ls 5 [(0, .ref (G.1 2)), (2, .int x2), (3, .int x3)] → W p l e ({ frames := 0, cells := 0, slots := 0, locals := 0 } : Room) s m args below meth c H locs 0 0 Q (F0 m 4 ls [])) (x2 : Int32) (x3 : Int32) (M : zM) (H : Heap) (locs : List Loc) (ls : Array Slot) (hH : zH G true s H locs M O) (hl : lv_has ls 5 [(0, .ref (G.1 2)), (2, .int x2), (3, .int x3)]) (h : pX4_turnWayTo_b4 post ag4 x2 x3 M) : W p l e ({ frames := 0, cells := 0, slots := 0, locals := 0 } : Room) s m args below meth c H locs 0 0 Q (F0 m 4 ls []) := by
  obtain ⟨hx, hb, hml, hown, hts⟩ := id hF
  unfold pX4_turnWayTo_b4 at h
  refine lv_iload_n hx hb dX4_turnWayTo_4 rfl (lv_at hl 2 rfl) ?_
  refine lv_aload_n hx hb dX4_turnWayTo_5 rfl (lv_at hl 0 rfl) ?_
  refine zget (v := .ref (G.1 1)) hF hSt hH 2 (by decide) rfl (zE_2 _ _ _) (C := RX4) (T := TX4) (N := 4) rfl znX4_turnWayTo_X4 0 (by decide) (List.mem_of_getElem? (i := 1) rfl) rfl dX4_turnWayTo_6 ?_
  refine zget (v := .int (M.1 1 0)) hF hSt hH 1 (by decide) rfl (zE_1 _ _ _) (C := RX2) (T := TX2) (N := 16) rfl znX4_turnWayTo_X2 0 (by decide) (List.mem_of_getElem? (i := 2) rfl) rfl dX4_turnWayTo_9 ?_
  refine lv_icmp_ge (tgt := 84) hx hb dX4_turnWayTo_12 (by decide) (fun q12 => ?_) (fun q12 => ?_)
  · have h := h.1 q12
    exact wX4_turnWayTo_b84 hF hSt hret M H locs ls hH (lv_sub hl [] rfl) h
  · have h := h.2 q12
    refine lv_iload_n hx hb dX4_turnWayTo_15 rfl (lv_at hl 1 rfl) ?_
    refine lv_if_eq (tgt := 84) hx hb dX4_turnWayTo_16 (by decide) (fun q16 => ?_) (fun q16 => ?_)
    · have h := h.1 q16
      exact wX4_turnWayTo_b84 hF hSt hret M H locs ls hH (lv_sub hl [] rfl) h
    · have h := h.2 q16
      refine lv_aload_n hx hb dX4_turnWayTo_19 rfl (lv_at hl 0 rfl) ?_
      refine zget (v := .ref (G.1 16)) hF hSt hH 2 (by decide) rfl (zE_2 _ _ _) (C := RX4) (T := TX4) (N := 4) rfl znX4_turnWayTo_X4 1 (by decide) (List.mem_of_getElem? (i := 3) rfl) rfl dX4_turnWayTo_20 ?_
      refine lv_iload_n hx hb dX4_turnWayTo_23 rfl (lv_at hl 1 rfl) ?_
      obtain ⟨q24, h⟩ := h
      refine zald hF hSt hH 16 (by decide) rfl (zE_16 _ _ _) q24 dX4_turnWayTo_24 ?_
      refine lv_istore (lv' := [(4, .int (M.1 16 x2.toNatClampNeg)), (0, .ref (G.1 2)), (2, .int x2), (3, .int x3)]) hx hb dX4_turnWayTo_25 hl (by decide) rfl (fun ls hl => ?_)
      refine lv_aload_n hx hb dX4_turnWayTo_27 rfl (lv_at hl 1 rfl) ?_
      refine lv_dup hx hb dX4_turnWayTo_28 rfl ?_
      refine zget (v := .int (M.1 2 2)) hF hSt hH 2 (by decide) rfl (zE_2 _ _ _) (C := RX4) (T := TX4) (N := 4) rfl znX4_turnWayTo_X4 2 (by decide) (List.mem_of_getElem? (i := 4) rfl) rfl dX4_turnWayTo_29 ?_
      refine lv_iconst (v := (1 : Int32)) hx hb dX4_turnWayTo_32 (by decide) ?_
      refine lv_iload hx hb dX4_turnWayTo_33 (lv_at hl 0 rfl) ?_
      refine lv_ishl hx hb dX4_turnWayTo_35 ?_
      refine lv_ixor hx hb dX4_turnWayTo_36 ?_
      refine zput hF hSt hH 2 (by decide) rfl (zE_2 _ _ _) (C := RX4) (T := TX4) (N := 4) rfl znX4_turnWayTo_X4 tyX4 tyX4_ok nmX4 2 (by decide) (List.mem_of_getElem? (i := 4) rfl) rfl (by decide +kernel) (Nat.le_of_ble_eq_true rfl) (x := ((M.1 2 2) ^^^ ((1 : Int32) <<< ((M.1 16 x2.toNatClampNeg) &&& 31)))) rfl dX4_turnWayTo_37 (fun H locs hH => ?_)
      refine lv_aload_n hx hb dX4_turnWayTo_40 rfl (lv_at hl 1 rfl) ?_
      refine zget (v := .ref (G.1 1)) hF hSt hH 2 (by decide) rfl (zE_2 _ _ _) (C := RX4) (T := TX4) (N := 4) rfl znX4_turnWayTo_X4 0 (by decide) (List.mem_of_getElem? (i := 1) rfl) rfl dX4_turnWayTo_41 ?_
      refine zget (v := .ref (G.1 7)) hF hSt hH 1 (by decide) rfl (zE_1 _ _ _) (C := RX2) (T := TX2) (N := 16) rfl znX4_turnWayTo_X2 7 (by decide) (List.mem_of_getElem? (i := 5) rfl) rfl dX4_turnWayTo_44 ?_
      refine lv_iload hx hb dX4_turnWayTo_47 (lv_at hl 0 rfl) ?_
      obtain ⟨q49, h⟩ := h
      refine zald hF hSt hH 7 (by decide) rfl (zE_7 _ _ _) q49 dX4_turnWayTo_49 ?_
      refine lv_iload_n hx hb dX4_turnWayTo_50 rfl (lv_at hl 2 rfl) ?_
      refine lv_icmp_ne (tgt := 67) hx hb dX4_turnWayTo_51 (by decide) (fun q51 => ?_) (fun q51 => ?_)
      · have h := h.1 q51
        refine lv_aload_n hx hb dX4_turnWayTo_67 rfl (lv_at hl 1 rfl) ?_
        refine zget (v := .ref (G.1 1)) hF hSt hH 2 (by decide) rfl (zE_2 _ _ _) (C := RX4) (T := TX4) (N := 4) rfl znX4_turnWayTo_X4 0 (by decide) (List.mem_of_getElem? (i := 1) rfl) rfl dX4_turnWayTo_68 ?_
        refine zget (v := .ref (G.1 7)) hF hSt hH 1 (by decide) rfl (zE_1 _ _ _) (C := RX2) (T := TX2) (N := 16) rfl znX4_turnWayTo_X2 7 (by decide) (List.mem_of_getElem? (i := 5) rfl) rfl dX4_turnWayTo_71 ?_
        refine lv_iload hx hb dX4_turnWayTo_74 (lv_at hl 0 rfl) ?_
        obtain ⟨q76, h⟩ := h
        refine zald hF hSt hH 7 (by decide) rfl (zE_7 _ _ _) q76 dX4_turnWayTo_76 ?_
        exact wX4_turnWayTo_b77 hF hSt hret hag4 x3 ((zsi M 2 2 ((M.1 2 2) ^^^ ((1 : Int32) <<< ((M.1 16 x2.toNatClampNeg) &&& 31)))).1 7 ((M.1 16 x2.toNatClampNeg)).toNatClampNeg) (zsi M 2 2 ((M.1 2 2) ^^^ ((1 : Int32) <<< ((M.1 16 x2.toNatClampNeg) &&& 31)))) H locs ls hH (lv_sub hl [1, 3] rfl) h
      · have h := h.2 q51
        refine lv_aload_n hx hb dX4_turnWayTo_54 rfl (lv_at hl 1 rfl) ?_
        refine zget (v := .ref (G.1 1)) hF hSt hH 2 (by decide) rfl (zE_2 _ _ _) (C := RX4) (T := TX4) (N := 4) rfl znX4_turnWayTo_X4 0 (by decide) (List.mem_of_getElem? (i := 1) rfl) rfl dX4_turnWayTo_55 ?_
        refine zget (v := .ref (G.1 6)) hF hSt hH 1 (by decide) rfl (zE_1 _ _ _) (C := RX2) (T := TX2) (N := 16) rfl znX4_turnWayTo_X2 6 (by decide) (List.mem_of_getElem? (i := 6) rfl) rfl dX4_turnWayTo_58 ?_
        refine lv_iload hx hb dX4_turnWayTo_61 (lv_at hl 0 rfl) ?_
        obtain ⟨q63, h⟩ := h
        refine zald hF hSt hH 6 (by decide) rfl (zE_6 _ _ _) q63 dX4_turnWayTo_63 ?_
        refine lv_goto (tgt := 77) hx hb dX4_turnWayTo_64 (by decide) ?_
        exact wX4_turnWayTo_b77 hF hSt hret hag4 x3 ((zsi M 2 2 ((M.1 2 2) ^^^ ((1 : Int32) <<< ((M.1 16 x2.toNatClampNeg) &&& 31)))).1 6 ((M.1 16 x2.toNatClampNeg)).toNatClampNeg) (zsi M 2 2 ((M.1 2 2) ^^^ ((1 : Int32) <<< ((M.1 16 x2.toNatClampNeg) &&& 31)))) H locs ls hH (lv_sub hl [1, 3] rfl) h
def pX4_turnWayTo_L4 (post : zM → Prop) (x2 : Int32) (x3 : Int32) (M : zM) : Prop :=
  ∃ I : Nat → Int32 → Int32 → zM → Prop, (∃ n, I n x2 x3 M) ∧ ∀ n x2 x3 M, I n x2 x3 M → pX4_turnWayTo_b4 post (fun x2 x3 M => ∃ k, k < n ∧ I k x2 x3 M) x2 x3 M
set_option maxHeartbeats 4000000 in
theorem wX4_turnWayTo_L4 {post : zM → Prop}  (hF : CallFix p m c cX4_turnWayTo 5 s args wsX4_turnWayTo RX4) (hSt : zSt G s) (hret : zRv p l e ({ frames := 0, cells := 0, slots := 0, locals := 0 } : Room) s m args below meth c Q cX4_turnWayTo G true O post) (x2 : Int32) (x3 : Int32) (M : zM) (H : Heap) (locs : List Loc) (ls : Array Slot) (hH : zH G true s H locs M O) (hl : lv_has ls 5 [(0, .ref (G.1 2)), (2, .int x2), (3, .int x3)]) (h : pX4_turnWayTo_L4 post x2 x3 M) : W p l e ({ frames := 0, cells := 0, slots := 0, locals := 0 } : Room) s m args below meth c H locs 0 0 Q (F0 m 4 ls []) := by
  obtain ⟨I, ⟨n, hI⟩, hs⟩ := h
  have key : ∀ (n : Nat) (x2 : Int32) (x3 : Int32) (M : zM) (H : Heap) (locs : List Loc) (ls : Array Slot), I n x2 x3 M → zH G true s H locs M O → lv_has ls 5 [(0, .ref (G.1 2)), (2, .int x2), (3, .int x3)] → W p l e ({ frames := 0, cells := 0, slots := 0, locals := 0 } : Room) s m args below meth c H locs 0 0 Q (F0 m 4 ls []) := by
    intro n
    induction n using Nat.strongRecOn with
    | _ n ih =>
      intro x2 x3 M H locs ls hI hH hl
      exact wX4_turnWayTo_b4 hF hSt hret (fun x2 x3 M H locs ls h hH hl => by obtain ⟨k, hk, hI⟩ := h; exact ih k hk x2 x3 M H locs ls hI hH hl) x2 x3 M H locs ls hH hl (hs n x2 x3 M hI)
  exact key n x2 x3 M H locs ls hI hH hl
def pX4_turnWayTo (M : zM) (x1 : Int32) (post : zM → Prop) : Prop :=
  pX4_turnWayTo_L4 post x1 (0 : Int32) M
set_option maxHeartbeats 4000000 in
set_option maxRecDepth 100000 in
theorem wX4_turnWayTo {M : zM} {post : zM → Prop} (hF : CallFix p m c cX4_turnWayTo 5 s args wsX4_turnWayTo RX4) (hSt : zSt G s) (hret : zRv p l e ({ frames := 0, cells := 0, slots := 0, locals := 0 } : Room) s m args below meth c Q cX4_turnWayTo G true O post) (x1 : Int32) (H : Heap) (locs : List Loc) (ls : Array Slot) (hH : zH G true s H locs M O) (hl : lv_has ls 5 [(0, .ref (G.1 2)), (1, .int x1)]) (h : pX4_turnWayTo M x1 post) : W p l e ({ frames := 0, cells := 0, slots := 0, locals := 0 } : Room) s m args below meth c H locs 0 0 Q (F0 m 0 ls []) := by
  obtain ⟨hx, hb, hml, hown, hts⟩ := id hF
  unfold pX4_turnWayTo at h
  refine lv_iload_n hx hb dX4_turnWayTo_0 rfl (lv_at hl 1 rfl) ?_
  refine lv_istore_n (lv' := [(2, .int x1), (0, .ref (G.1 2)), (1, .int x1)]) hx hb dX4_turnWayTo_1 rfl hl (by decide) rfl (fun ls hl => ?_)
  refine lv_iconst (v := (0 : Int32)) hx hb dX4_turnWayTo_2 (by decide) ?_
  refine lv_istore_n (lv' := [(3, .int (0 : Int32)), (2, .int x1), (0, .ref (G.1 2)), (1, .int x1)]) hx hb dX4_turnWayTo_3 rfl hl (by decide) rfl (fun ls hl => ?_)
  exact wX4_turnWayTo_L4 hF hSt hret x1 (0 : Int32) M H locs ls hH (lv_sub hl [2, 1, 0] rfl) h
set_option maxRecDepth 100000 in
theorem kX4_turnWayTo (l : Launch) (G : zG) (M O : zM) (x1 : Int32) (post : zM → Prop) (h : pX4_turnWayTo M x1 post) : Met l yX4_turnWayTo wsX4_turnWayTo ({ frames := 0, cells := 0, slots := 0, locals := 0 } : Room) (zPc G true M O [.ref (G.1 2), .int x1]) (va_Qv post (zB G true O) (zAA G)) 0 0 (zAA G) :=
  zmet_v (by decide) rfl (Nat.le_of_ble_eq_true rfl) (fun hF hSt hret H locs ls hH hl => wX4_turnWayTo hF hSt hret x1 H locs ls hH hl h)
end
theorem znX4_mostTo_X4 : ∀ w ∈ wsX40, w ∈ wsX4_mostTo := fun _ h => List.mem_cons_of_mem _ (List.mem_append_left _ (List.mem_append_right _ h))
theorem znX4_mostTo_X2 : ∀ w ∈ wsX20, w ∈ wsX4_mostTo := fun _ h => List.mem_cons_of_mem _ (List.mem_append_right _ h)
theorem zdX4_mostTo : yX4_mostTo.cls ≠ "java/lang/invoke/MethodHandle" ∧ yX4_mostTo.cls ≠ "java/lang/invoke/VarHandle" ∧ (parseMethodDescriptor yX4_mostTo.desc).map (fun d => d.parameters.length) = some 1 := by decide +kernel
-- MixingRelays$Ways mostTo(I)I
section
variable {p : Program} {l : Launch} {e : Env} {s : State} {m : MethodId} {args : Array Value} {below : List Frame} {meth : Method} {c : Code} {Q : State → Prop} {G : zG} {O : zM}
def pX4_mostTo_b52 (post : Int32 → zM → Prop) (x2 : Int32) (M : zM) : Prop :=
  post x2 M
set_option maxHeartbeats 4000000 in
set_option maxRecDepth 100000 in
theorem wX4_mostTo_b52 {post : Int32 → zM → Prop}  (hF : CallFix p m c cX4_mostTo 4 s args wsX4_mostTo RX4) (hSt : zSt G s) (hret : zRi p l e ({ frames := 3, cells := 0, slots := 0, locals := 68 } : Room) s m args below meth c Q cX4_mostTo G true O post) (x2 : Int32) (M : zM) (H : Heap) (locs : List Loc) (ls : Array Slot) (hH : zH G true s H locs M O) (hl : lv_has ls 4 [(2, .int x2)]) (h : pX4_mostTo_b52 post x2 M) : W p l e ({ frames := 3, cells := 0, slots := 0, locals := 68 } : Room) s m args below meth c H locs 0 0 Q (F0 m 52 ls []) := by
  obtain ⟨hx, hb, hml, hown, hts⟩ := id hF
  unfold pX4_mostTo_b52 at h
  refine lv_iload_n hx hb dX4_mostTo_52 rfl (lv_at hl 0 rfl) ?_
  exact hret _ _ _ _ _ _ dX4_mostTo_53 h hH
def pX4_mostTo_b9 (post : Int32 → zM → Prop) (ag9 : Int32 → Int32 → Int32 → zM → Prop) (x1 : Int32) (x2 : Int32) (x3 : Int32) (M : zM) : Prop :=
  ((M.1 1 1) < x3 → pX4_mostTo_b52 post x2 M) ∧ (¬ ((M.1 1 1) < x3) → pX4_reach M  (fun M21 => pX5_flag (M21.1 2 3) x1 (fun r29 => (¬ (r29 = 0) → pX4_turnWayTo M21 x1 (fun M40 => ag9 x1 (x2 + (1 : Int32)) (x3 + (1 : Int32)) M40)) ∧ (r29 = 0 → pX4_mostTo_b52 post x2 M21))))
set_option maxHeartbeats 4000000 in
set_option maxRecDepth 100000 in
theorem wX4_mostTo_b9 {post : Int32 → zM → Prop} {ag9 : Int32 → Int32 → Int32 → zM → Prop} (hF : CallFix p m c cX4_mostTo 4 s args wsX4_mostTo RX4) (hSt : zSt G s) (hret : zRi p l e ({ frames := 3, cells := 0, slots := 0, locals := 68 } : Room) s m args below meth c Q cX4_mostTo G true O post) (hag9 : ∀ (x1 : Int32) (x2 : Int32) (x3 : Int32) (M : zM) (H : Heap) (locs : List Loc) (ls : Array Slot), ag9 x1 x2 x3 M → zH G true s H locs M O → lv_has ls 4 [(0, .ref (G.1 2)), (1, .int x1), (2, .int x2), (3, .int x3)] → W p l e ({ frames := 3, cells := 0, slots := 0, locals := 68 } : Room) s m args below meth c H locs 0 0 Q (F0 m 9 ls [])) (x1 : Int32) (x2 : Int32) (x3 : Int32) (M : zM) (H : Heap) (locs : List Loc) (ls : Array Slot) (hH : zH G true s H locs M O) (hl : lv_has ls 4 [(0, .ref (G.1 2)), (1, .int x1), (2, .int x2), (3, .int x3)]) (h : pX4_mostTo_b9 post ag9 x1 x2 x3 M) : W p l e ({ frames := 3, cells := 0, slots := 0, locals := 68 } : Room) s m args below meth c H locs 0 0 Q (F0 m 9 ls []) := by
  obtain ⟨hx, hb, hml, hown, hts⟩ := id hF
  unfold pX4_mostTo_b9 at h
  refine lv_iload_n hx hb dX4_mostTo_9 rfl (lv_at hl 3 rfl) ?_
  refine lv_aload_n hx hb dX4_mostTo_10 rfl (lv_at hl 0 rfl) ?_
  refine zget (v := .ref (G.1 1)) hF hSt hH 2 (by decide) rfl (zE_2 _ _ _) (C := RX4) (T := TX4) (N := 4) rfl znX4_mostTo_X4 0 (by decide) (List.mem_of_getElem? (i := 2) rfl) rfl dX4_mostTo_11 ?_
  refine zget (v := .int (M.1 1 1)) hF hSt hH 1 (by decide) rfl (zE_1 _ _ _) (C := RX2) (T := TX2) (N := 16) rfl znX4_mostTo_X2 1 (by decide) (List.mem_of_getElem? (i := 3) rfl) rfl dX4_mostTo_14 ?_
  refine lv_icmp_gt (tgt := 52) hx hb dX4_mostTo_17 (by decide) (fun q17 => ?_) (fun q17 => ?_)
  · have h := h.1 q17
    exact wX4_mostTo_b52 hF hSt hret x2 M H locs ls hH (lv_sub hl [2] rfl) h
  · have h := h.2 q17
    refine lv_aload_n hx hb dX4_mostTo_20 rfl (lv_at hl 0 rfl) ?_
    refine zcallv hH (va_runV (As := []) (rest := []) hF (kX4_reach l G M O _ h) (cwV 0 hts gX4_mostTo_X4_reach rfl rfl rfl ⟨rfl, zdX4_reach⟩ ⟨Nat.le_of_ble_eq_true rfl, Nat.le_of_ble_eq_true rfl⟩) (zpreV hSt hH 2 (by decide) rfl (zE_2 _ _ _) (q := (RX4, TX4, 4)) rfl []) rfl rfl hl.1 rfl (lv_room (Nat.le_of_ble_eq_true rfl)) dX4_mostTo_21 ⟨Nat.zero_le _, Nat.zero_le _⟩) (fun M21 H locs h hH => ?_)
    refine lv_aload_n hx hb dX4_mostTo_24 rfl (lv_at hl 0 rfl) ?_
    refine zget (v := .int (M21.1 2 3)) hF hSt hH 2 (by decide) rfl (zE_2 _ _ _) (C := RX4) (T := TX4) (N := 4) rfl znX4_mostTo_X4 3 (by decide) (List.mem_of_getElem? (i := 4) rfl) rfl dX4_mostTo_25 ?_
    refine lv_iload_n hx hb dX4_mostTo_28 rfl (lv_at hl 1 rfl) ?_
    refine zcalliP hH (va_runSN (As := [.int (M21.1 2 3), .int x1]) (rest := []) hF (kX5_flag l G M21 O (M21.1 2 3) x1 _ h) ⟨va_cnB 2 hts gX4_mostTo_X5_flag_n34 rfl rfl rfl (hSt.2.2.1 _ zNest_X4_34) (hts _ (List.mem_of_getElem? (i := 13) rfl)) zdX5_flag ⟨Nat.le_of_ble_eq_true rfl, Nat.le_of_ble_eq_true rfl⟩, hts _ (List.mem_of_getElem? (i := 12) rfl), trivial⟩ (zpreS hSt hH [.int (M21.1 2 3), .int x1]) rfl rfl hl.1 rfl (lv_room (Nat.le_of_ble_eq_true rfl)) dX4_mostTo_29 ⟨Nat.zero_le _, Nat.zero_le _⟩) (fun r29 H locs h hH => ?_)
    refine lv_if_ne (tgt := 38) hx hb dX4_mostTo_32 (by decide) (fun q32 => ?_) (fun q32 => ?_)
    · have h := h.1 q32
      refine lv_aload_n hx hb dX4_mostTo_38 rfl (lv_at hl 0 rfl) ?_
      refine lv_iload_n hx hb dX4_mostTo_39 rfl (lv_at hl 1 rfl) ?_
      refine zcallv hH (va_runV (As := [.int x1]) (rest := []) hF (kX4_turnWayTo l G M21 O x1 _ h) (cwV 1 hts gX4_mostTo_X4_turnWayTo rfl rfl rfl ⟨rfl, zdX4_turnWayTo⟩ ⟨Nat.le_of_ble_eq_true rfl, Nat.le_of_ble_eq_true rfl⟩) (zpreV hSt hH 2 (by decide) rfl (zE_2 _ _ _) (q := (RX4, TX4, 4)) rfl [.int x1]) rfl rfl hl.1 rfl (lv_room (Nat.le_of_ble_eq_true rfl)) dX4_mostTo_40 ⟨Nat.zero_le _, Nat.zero_le _⟩) (fun M40 H locs h hH => ?_)
      refine lv_iinc (v := (x2 + (1 : Int32))) (lv' := [(2, .int (x2 + (1 : Int32))), (0, .ref (G.1 2)), (1, .int x1), (3, .int x3)]) hx hb dX4_mostTo_43 hl (k := 2) rfl rfl (by decide) rfl (fun ls hl => ?_)
      refine lv_iinc (v := (x3 + (1 : Int32))) (lv' := [(3, .int (x3 + (1 : Int32))), (2, .int (x2 + (1 : Int32))), (0, .ref (G.1 2)), (1, .int x1)]) hx hb dX4_mostTo_46 hl (k := 3) rfl rfl (by decide) rfl (fun ls hl => ?_)
      refine lv_goto (tgt := 9) hx hb dX4_mostTo_49 (by decide) ?_
      exact hag9 x1 (x2 + (1 : Int32)) (x3 + (1 : Int32)) M40 H locs ls h hH (lv_sub hl [2, 3, 1, 0] rfl)
    · have h := h.2 q32
      refine lv_goto (tgt := 52) hx hb dX4_mostTo_35 (by decide) ?_
      exact wX4_mostTo_b52 hF hSt hret x2 M21 H locs ls hH (lv_sub hl [2] rfl) h
def pX4_mostTo_L9 (post : Int32 → zM → Prop) (x1 : Int32) (x2 : Int32) (x3 : Int32) (M : zM) : Prop :=
  ∃ I : Nat → Int32 → Int32 → Int32 → zM → Prop, (∃ n, I n x1 x2 x3 M) ∧ ∀ n x1 x2 x3 M, I n x1 x2 x3 M → pX4_mostTo_b9 post (fun x1 x2 x3 M => ∃ k, k < n ∧ I k x1 x2 x3 M) x1 x2 x3 M
set_option maxHeartbeats 4000000 in
theorem wX4_mostTo_L9 {post : Int32 → zM → Prop}  (hF : CallFix p m c cX4_mostTo 4 s args wsX4_mostTo RX4) (hSt : zSt G s) (hret : zRi p l e ({ frames := 3, cells := 0, slots := 0, locals := 68 } : Room) s m args below meth c Q cX4_mostTo G true O post) (x1 : Int32) (x2 : Int32) (x3 : Int32) (M : zM) (H : Heap) (locs : List Loc) (ls : Array Slot) (hH : zH G true s H locs M O) (hl : lv_has ls 4 [(0, .ref (G.1 2)), (1, .int x1), (2, .int x2), (3, .int x3)]) (h : pX4_mostTo_L9 post x1 x2 x3 M) : W p l e ({ frames := 3, cells := 0, slots := 0, locals := 68 } : Room) s m args below meth c H locs 0 0 Q (F0 m 9 ls []) := by
  obtain ⟨I, ⟨n, hI⟩, hs⟩ := h
  have key : ∀ (n : Nat) (x1 : Int32) (x2 : Int32) (x3 : Int32) (M : zM) (H : Heap) (locs : List Loc) (ls : Array Slot), I n x1 x2 x3 M → zH G true s H locs M O → lv_has ls 4 [(0, .ref (G.1 2)), (1, .int x1), (2, .int x2), (3, .int x3)] → W p l e ({ frames := 3, cells := 0, slots := 0, locals := 68 } : Room) s m args below meth c H locs 0 0 Q (F0 m 9 ls []) := by
    intro n
    induction n using Nat.strongRecOn with
    | _ n ih =>
      intro x1 x2 x3 M H locs ls hI hH hl
      exact wX4_mostTo_b9 hF hSt hret (fun x1 x2 x3 M H locs ls h hH hl => by obtain ⟨k, hk, hI⟩ := h; exact ih k hk x1 x2 x3 M H locs ls hI hH hl) x1 x2 x3 M H locs ls hH hl (hs n x1 x2 x3 M hI)
  exact key n x1 x2 x3 M H locs ls hI hH hl
def pX4_mostTo (M : zM) (x1 : Int32) (post : Int32 → zM → Prop) : Prop :=
  pX4_mostTo_L9 post x1 (0 : Int32) (0 : Int32) (zsi M 2 2 (0 : Int32))
set_option maxHeartbeats 4000000 in
set_option maxRecDepth 100000 in
theorem wX4_mostTo {M : zM} {post : Int32 → zM → Prop} (hF : CallFix p m c cX4_mostTo 4 s args wsX4_mostTo RX4) (hSt : zSt G s) (hret : zRi p l e ({ frames := 3, cells := 0, slots := 0, locals := 68 } : Room) s m args below meth c Q cX4_mostTo G true O post) (x1 : Int32) (H : Heap) (locs : List Loc) (ls : Array Slot) (hH : zH G true s H locs M O) (hl : lv_has ls 4 [(0, .ref (G.1 2)), (1, .int x1)]) (h : pX4_mostTo M x1 post) : W p l e ({ frames := 3, cells := 0, slots := 0, locals := 68 } : Room) s m args below meth c H locs 0 0 Q (F0 m 0 ls []) := by
  obtain ⟨hx, hb, hml, hown, hts⟩ := id hF
  unfold pX4_mostTo at h
  refine lv_aload_n hx hb dX4_mostTo_0 rfl (lv_at hl 0 rfl) ?_
  refine lv_iconst (v := (0 : Int32)) hx hb dX4_mostTo_1 (by decide) ?_
  refine zput hF hSt hH 2 (by decide) rfl (zE_2 _ _ _) (C := RX4) (T := TX4) (N := 4) rfl znX4_mostTo_X4 tyX4 tyX4_ok nmX4 2 (by decide) (List.mem_of_getElem? (i := 1) rfl) rfl (by decide +kernel) (Nat.le_of_ble_eq_true rfl) (x := (0 : Int32)) rfl dX4_mostTo_2 (fun H locs hH => ?_)
  refine lv_iconst (v := (0 : Int32)) hx hb dX4_mostTo_5 (by decide) ?_
  refine lv_istore_n (lv' := [(2, .int (0 : Int32)), (0, .ref (G.1 2)), (1, .int x1)]) hx hb dX4_mostTo_6 rfl hl (by decide) rfl (fun ls hl => ?_)
  refine lv_iconst (v := (0 : Int32)) hx hb dX4_mostTo_7 (by decide) ?_
  refine lv_istore_n (lv' := [(3, .int (0 : Int32)), (2, .int (0 : Int32)), (0, .ref (G.1 2)), (1, .int x1)]) hx hb dX4_mostTo_8 rfl hl (by decide) rfl (fun ls hl => ?_)
  exact wX4_mostTo_L9 hF hSt hret x1 (0 : Int32) (0 : Int32) (zsi M 2 2 (0 : Int32)) H locs ls hH (lv_sub hl [2, 3, 1, 0] rfl) h
set_option maxRecDepth 100000 in
theorem kX4_mostTo (l : Launch) (G : zG) (M O : zM) (x1 : Int32) (post : Int32 → zM → Prop) (h : pX4_mostTo M x1 post) : Met l yX4_mostTo wsX4_mostTo ({ frames := 3, cells := 0, slots := 0, locals := 68 } : Room) (zPc G true M O [.ref (G.1 2), .int x1]) (va_Qi post (zB G true O) (zAA G)) 0 0 (zAA G) :=
  zmet_i (by decide) rfl (Nat.le_of_ble_eq_true rfl) (fun hF hSt hret H locs ls hH hl => wX4_mostTo hF hSt hret x1 H locs ls hH hl h)
end
theorem znX5_flow_X5 : ∀ w ∈ wsX50, w ∈ wsX5_flow := fun _ h => List.mem_cons_of_mem _ (List.mem_append_left _ (List.mem_append_left _ (List.mem_append_right _ h)))
theorem znX5_flow_X2 : ∀ w ∈ wsX20, w ∈ wsX5_flow := fun _ h => List.mem_cons_of_mem _ (List.mem_append_left _ (List.mem_append_right _ h))
theorem znX5_flow_X4 : ∀ w ∈ wsX40, w ∈ wsX5_flow := fun _ h => List.mem_cons_of_mem _ (List.mem_append_right _ h)
theorem zdX5_flow : yX5_flow.cls ≠ "java/lang/invoke/MethodHandle" ∧ yX5_flow.cls ≠ "java/lang/invoke/VarHandle" ∧ (parseMethodDescriptor yX5_flow.desc).map (fun d => d.parameters.length) = some 1 := by decide +kernel
-- MixingRelays flow(I)I
section
variable {p : Program} {l : Launch} {e : Env} {s : State} {m : MethodId} {args : Array Value} {below : List Frame} {meth : Method} {c : Code} {Q : State → Prop} {G : zG} {O : zM}
def pX5_flow_b22 (post : Int32 → zM → Prop) (t0 : Int32) (M : zM) : Prop :=
  post t0 M
set_option maxHeartbeats 4000000 in
set_option maxRecDepth 100000 in
theorem wX5_flow_b22 {post : Int32 → zM → Prop}  (hF : CallFix p m c cX5_flow 3 s args wsX5_flow RX5) (hSt : zSt G s) (hret : zRi p l e ({ frames := 4, cells := 0, slots := 0, locals := 91 } : Room) s m args below meth c Q cX5_flow G true O post) (t0 : Int32) (M : zM) (H : Heap) (locs : List Loc) (ls : Array Slot) (hH : zH G true s H locs M O) (hl : lv_has ls 3 []) (h : pX5_flow_b22 post t0 M) : W p l e ({ frames := 4, cells := 0, slots := 0, locals := 91 } : Room) s m args below meth c H locs 0 0 Q (F0 m 22 ls [.int t0]) := by
  obtain ⟨hx, hb, hml, hown, hts⟩ := id hF
  unfold pX5_flow_b22 at h
  exact hret _ _ _ _ _ _ dX5_flow_22 h hH
def pX5_flow (M : zM) (x1 : Int32) (post : Int32 → zM → Prop) : Prop :=
  pX5_refusalOf M x1 (fun r2 => (r2 = 0 → pX4_mostTo M x1 (fun r19 M19 => pX5_flow_b22 post r19 M19)) ∧ (¬ (r2 = 0) → pX5_flow_b22 post r2 M))
set_option maxHeartbeats 4000000 in
set_option maxRecDepth 100000 in
theorem wX5_flow {M : zM} {post : Int32 → zM → Prop} (hF : CallFix p m c cX5_flow 3 s args wsX5_flow RX5) (hSt : zSt G s) (hret : zRi p l e ({ frames := 4, cells := 0, slots := 0, locals := 91 } : Room) s m args below meth c Q cX5_flow G true O post) (x1 : Int32) (H : Heap) (locs : List Loc) (ls : Array Slot) (hH : zH G true s H locs M O) (hl : lv_has ls 3 [(0, .ref (G.1 0)), (1, .int x1)]) (h : pX5_flow M x1 post) : W p l e ({ frames := 4, cells := 0, slots := 0, locals := 91 } : Room) s m args below meth c H locs 0 0 Q (F0 m 0 ls []) := by
  obtain ⟨hx, hb, hml, hown, hts⟩ := id hF
  unfold pX5_flow at h
  refine lv_aload_n hx hb dX5_flow_0 rfl (lv_at hl 0 rfl) ?_
  refine lv_iload_n hx hb dX5_flow_1 rfl (lv_at hl 1 rfl) ?_
  refine zcalliP hH (va_runV (As := [.int x1]) (rest := []) hF (kX5_refusalOf l G M O x1 _ h) (cwV 1 hts gX5_flow_X5_refusalOf rfl rfl rfl ⟨rfl, zdX5_refusalOf⟩ ⟨Nat.le_of_ble_eq_true rfl, Nat.le_of_ble_eq_true rfl⟩) (zpreV hSt hH 0 (by decide) rfl (zE_0 _ _ _) (q := (RX5, TX5, 5)) rfl [.int x1]) rfl rfl hl.1 rfl (lv_room (Nat.le_of_ble_eq_true rfl)) dX5_flow_2 ⟨Nat.zero_le _, Nat.zero_le _⟩) (fun r2 H locs h hH => ?_)
  refine lv_istore_n (lv' := [(2, .int r2), (0, .ref (G.1 0)), (1, .int x1)]) hx hb dX5_flow_5 rfl hl (by decide) rfl (fun ls hl => ?_)
  refine lv_iload_n hx hb dX5_flow_6 rfl (lv_at hl 0 rfl) ?_
  refine lv_if_eq (tgt := 14) hx hb dX5_flow_7 (by decide) (fun q7 => ?_) (fun q7 => ?_)
  · have h := h.1 q7
    refine lv_aload_n hx hb dX5_flow_14 rfl (lv_at hl 1 rfl) ?_
    refine zget (v := .ref (G.1 2)) hF hSt hH 0 (by decide) rfl (zE_0 _ _ _) (C := RX5) (T := TX5) (N := 5) rfl znX5_flow_X5 1 (by decide) (List.mem_of_getElem? (i := 1) rfl) rfl dX5_flow_15 ?_
    refine lv_iload_n hx hb dX5_flow_18 rfl (lv_at hl 2 rfl) ?_
    refine zcalli hH (va_runV (As := [.int x1]) (rest := []) hF (kX4_mostTo l G M O x1 _ h) (cwV 1 hts gX5_flow_X4_mostTo rfl rfl rfl ⟨rfl, zdX4_mostTo⟩ ⟨Nat.le_of_ble_eq_true rfl, Nat.le_of_ble_eq_true rfl⟩) (zpreV hSt hH 2 (by decide) rfl (zE_2 _ _ _) (q := (RX4, TX4, 4)) rfl [.int x1]) rfl rfl hl.1 rfl (lv_room (Nat.le_of_ble_eq_true rfl)) dX5_flow_19 ⟨Nat.zero_le _, Nat.zero_le _⟩) (fun r19 M19 H locs h hH => ?_)
    exact wX5_flow_b22 hF hSt hret r19 M19 H locs ls hH (lv_sub hl [] rfl) h
  · have h := h.2 q7
    refine lv_iload_n hx hb dX5_flow_10 rfl (lv_at hl 0 rfl) ?_
    refine lv_goto (tgt := 22) hx hb dX5_flow_11 (by decide) ?_
    exact wX5_flow_b22 hF hSt hret r2 M H locs ls hH (lv_sub hl [] rfl) h
set_option maxRecDepth 100000 in
theorem kX5_flow (l : Launch) (G : zG) (M O : zM) (x1 : Int32) (post : Int32 → zM → Prop) (h : pX5_flow M x1 post) : Met l yX5_flow wsX5_flow ({ frames := 4, cells := 0, slots := 0, locals := 91 } : Room) (zPc G true M O [.ref (G.1 0), .int x1]) (va_Qi post (zB G true O) (zAA G)) 0 0 (zAA G) :=
  zmet_i (by decide) rfl (Nat.le_of_ble_eq_true rfl) (fun hF hSt hret H locs ls hH hl => wX5_flow hF hSt hret x1 H locs ls hH hl h)
end
theorem znX4_cutLine_X4 : ∀ w ∈ wsX40, w ∈ wsX4_cutLine := fun _ h => List.mem_cons_of_mem _ (List.mem_append_left _ (List.mem_append_right _ h))
theorem znX4_cutLine_X2 : ∀ w ∈ wsX20, w ∈ wsX4_cutLine := fun _ h => List.mem_cons_of_mem _ (List.mem_append_right _ h)
theorem zdX4_cutLine : yX4_cutLine.cls ≠ "java/lang/invoke/MethodHandle" ∧ yX4_cutLine.cls ≠ "java/lang/invoke/VarHandle" ∧ (parseMethodDescriptor yX4_cutLine.desc).map (fun d => d.parameters.length) = some 1 := by decide +kernel
-- MixingRelays$Ways cutLine(I)I
section
variable {p : Program} {l : Launch} {e : Env} {s : State} {m : MethodId} {args : Array Value} {below : List Frame} {meth : Method} {c : Code} {Q : State → Prop} {G : zG} {O : zM}
def pX4_cutLine_b78 (M : zM) (post : Int32 → Prop) (ag4 : Int32 → Int32 → Int32 → Prop) (x1 : Int32) (x2 : Int32) (x3 : Int32) : Prop :=
  ag4 x1 x2 (x3 + (1 : Int32))
set_option maxHeartbeats 4000000 in
set_option maxRecDepth 100000 in
theorem wX4_cutLine_b78 {M : zM} {post : Int32 → Prop} {ag4 : Int32 → Int32 → Int32 → Prop} (hF : CallFix p m c cX4_cutLine 4 s args wsX4_cutLine RX4) (hSt : zSt G s) (hret : zRi p l e ({ frames := 1, cells := 0, slots := 0, locals := 21 } : Room) s m args below meth c Q cX4_cutLine G true O (fun r M1 => M1 = M ∧ post r)) (hag4 : ∀ (x1 : Int32) (x2 : Int32) (x3 : Int32) (H : Heap) (locs : List Loc) (ls : Array Slot), ag4 x1 x2 x3 → zH G true s H locs M O → lv_has ls 4 [(0, .ref (G.1 2)), (1, .int x1), (2, .int x2), (3, .int x3)] → W p l e ({ frames := 1, cells := 0, slots := 0, locals := 21 } : Room) s m args below meth c H locs 0 0 Q (F0 m 4 ls [])) (x1 : Int32) (x2 : Int32) (x3 : Int32) (H : Heap) (locs : List Loc) (ls : Array Slot) (hH : zH G true s H locs M O) (hl : lv_has ls 4 [(0, .ref (G.1 2)), (1, .int x1), (2, .int x2), (3, .int x3)]) (h : pX4_cutLine_b78 M post ag4 x1 x2 x3) : W p l e ({ frames := 1, cells := 0, slots := 0, locals := 21 } : Room) s m args below meth c H locs 0 0 Q (F0 m 78 ls []) := by
  obtain ⟨hx, hb, hml, hown, hts⟩ := id hF
  unfold pX4_cutLine_b78 at h
  refine lv_iinc (v := (x3 + (1 : Int32))) (lv' := [(3, .int (x3 + (1 : Int32))), (0, .ref (G.1 2)), (1, .int x1), (2, .int x2)]) hx hb dX4_cutLine_78 hl (k := 3) rfl rfl (by decide) rfl (fun ls hl => ?_)
  refine lv_goto (tgt := 4) hx hb dX4_cutLine_81 (by decide) ?_
  exact hag4 x1 x2 (x3 + (1 : Int32)) H locs ls h hH (lv_sub hl [1, 2, 3, 0] rfl)
def pX4_cutLine_b4 (M : zM) (post : Int32 → Prop) (ag4 : Int32 → Int32 → Int32 → Prop) (x1 : Int32) (x2 : Int32) (x3 : Int32) : Prop :=
  ((M.1 1 1) ≤ x3 → post (-1 : Int32)) ∧ (¬ ((M.1 1 1) ≤ x3) → pX5_flag (M.1 1 5) x3 (fun r23 => (¬ (r23 = 0) → pX4_cutLine_b78 M post ag4 x1 x2 x3) ∧ (r23 = 0 → vp_in x3 30 ∧ pX5_flag (M.1 2 3) (M.1 6 x3.toNatClampNeg) (fun r42 => (¬ (r42 = (1 : Int32)) → pX4_cutLine_b78 M post ag4 x1 x2 x3) ∧ (r42 = (1 : Int32) → vp_in x3 30 ∧ pX5_flag (M.1 2 3) (M.1 7 x3.toNatClampNeg) (fun r62 => (¬ (r62 = 0) → pX4_cutLine_b78 M post ag4 x1 x2 x3) ∧ (r62 = 0 → (¬ (x2 = x1) → pX4_cutLine_b78 M post ag4 x1 (x2 + (1 : Int32)) x3) ∧ (x2 = x1 → post x3))))))))
set_option maxHeartbeats 4000000 in
set_option maxRecDepth 100000 in
theorem wX4_cutLine_b4 {M : zM} {post : Int32 → Prop} {ag4 : Int32 → Int32 → Int32 → Prop} (hF : CallFix p m c cX4_cutLine 4 s args wsX4_cutLine RX4) (hSt : zSt G s) (hret : zRi p l e ({ frames := 1, cells := 0, slots := 0, locals := 21 } : Room) s m args below meth c Q cX4_cutLine G true O (fun r M1 => M1 = M ∧ post r)) (hag4 : ∀ (x1 : Int32) (x2 : Int32) (x3 : Int32) (H : Heap) (locs : List Loc) (ls : Array Slot), ag4 x1 x2 x3 → zH G true s H locs M O → lv_has ls 4 [(0, .ref (G.1 2)), (1, .int x1), (2, .int x2), (3, .int x3)] → W p l e ({ frames := 1, cells := 0, slots := 0, locals := 21 } : Room) s m args below meth c H locs 0 0 Q (F0 m 4 ls [])) (x1 : Int32) (x2 : Int32) (x3 : Int32) (H : Heap) (locs : List Loc) (ls : Array Slot) (hH : zH G true s H locs M O) (hl : lv_has ls 4 [(0, .ref (G.1 2)), (1, .int x1), (2, .int x2), (3, .int x3)]) (h : pX4_cutLine_b4 M post ag4 x1 x2 x3) : W p l e ({ frames := 1, cells := 0, slots := 0, locals := 21 } : Room) s m args below meth c H locs 0 0 Q (F0 m 4 ls []) := by
  obtain ⟨hx, hb, hml, hown, hts⟩ := id hF
  unfold pX4_cutLine_b4 at h
  refine lv_iload_n hx hb dX4_cutLine_4 rfl (lv_at hl 3 rfl) ?_
  refine lv_aload_n hx hb dX4_cutLine_5 rfl (lv_at hl 0 rfl) ?_
  refine zget (v := .ref (G.1 1)) hF hSt hH 2 (by decide) rfl (zE_2 _ _ _) (C := RX4) (T := TX4) (N := 4) rfl znX4_cutLine_X4 0 (by decide) (List.mem_of_getElem? (i := 1) rfl) rfl dX4_cutLine_6 ?_
  refine zget (v := .int (M.1 1 1)) hF hSt hH 1 (by decide) rfl (zE_1 _ _ _) (C := RX2) (T := TX2) (N := 16) rfl znX4_cutLine_X2 1 (by decide) (List.mem_of_getElem? (i := 2) rfl) rfl dX4_cutLine_9 ?_
  refine lv_icmp_ge (tgt := 84) hx hb dX4_cutLine_12 (by decide) (fun q12 => ?_) (fun q12 => ?_)
  · have h := h.1 q12
    refine lv_iconst (v := (-1 : Int32)) hx hb dX4_cutLine_84 (by decide) ?_
    exact hret _ _ _ _ _ _ dX4_cutLine_85 ⟨rfl, h⟩ hH
  · have h := h.2 q12
    refine lv_aload_n hx hb dX4_cutLine_15 rfl (lv_at hl 0 rfl) ?_
    refine zget (v := .ref (G.1 1)) hF hSt hH 2 (by decide) rfl (zE_2 _ _ _) (C := RX4) (T := TX4) (N := 4) rfl znX4_cutLine_X4 0 (by decide) (List.mem_of_getElem? (i := 1) rfl) rfl dX4_cutLine_16 ?_
    refine zget (v := .int (M.1 1 5)) hF hSt hH 1 (by decide) rfl (zE_1 _ _ _) (C := RX2) (T := TX2) (N := 16) rfl znX4_cutLine_X2 5 (by decide) (List.mem_of_getElem? (i := 3) rfl) rfl dX4_cutLine_19 ?_
    refine lv_iload_n hx hb dX4_cutLine_22 rfl (lv_at hl 3 rfl) ?_
    refine zcalliP hH (va_runSN (As := [.int (M.1 1 5), .int x3]) (rest := []) hF (kX5_flag l G M O (M.1 1 5) x3 _ h) ⟨va_cnB 2 hts gX4_cutLine_X5_flag_n34 rfl rfl rfl (hSt.2.2.1 _ zNest_X4_34) (hts _ (List.mem_of_getElem? (i := 8) rfl)) zdX5_flag ⟨Nat.le_of_ble_eq_true rfl, Nat.le_of_ble_eq_true rfl⟩, hts _ (List.mem_of_getElem? (i := 7) rfl), trivial⟩ (zpreS hSt hH [.int (M.1 1 5), .int x3]) rfl rfl hl.1 rfl (lv_room (Nat.le_of_ble_eq_true rfl)) dX4_cutLine_23 ⟨Nat.zero_le _, Nat.zero_le _⟩) (fun r23 H locs h hH => ?_)
    refine lv_if_ne (tgt := 78) hx hb dX4_cutLine_26 (by decide) (fun q26 => ?_) (fun q26 => ?_)
    · have h := h.1 q26
      exact wX4_cutLine_b78 hF hSt hret hag4 x1 x2 x3 H locs ls hH (lv_sub hl [0, 1, 2, 3] rfl) h
    · have h := h.2 q26
      refine lv_aload_n hx hb dX4_cutLine_29 rfl (lv_at hl 0 rfl) ?_
      refine zget (v := .int (M.1 2 3)) hF hSt hH 2 (by decide) rfl (zE_2 _ _ _) (C := RX4) (T := TX4) (N := 4) rfl znX4_cutLine_X4 3 (by decide) (List.mem_of_getElem? (i := 4) rfl) rfl dX4_cutLine_30 ?_
      refine lv_aload_n hx hb dX4_cutLine_33 rfl (lv_at hl 0 rfl) ?_
      refine zget (v := .ref (G.1 1)) hF hSt hH 2 (by decide) rfl (zE_2 _ _ _) (C := RX4) (T := TX4) (N := 4) rfl znX4_cutLine_X4 0 (by decide) (List.mem_of_getElem? (i := 1) rfl) rfl dX4_cutLine_34 ?_
      refine zget (v := .ref (G.1 6)) hF hSt hH 1 (by decide) rfl (zE_1 _ _ _) (C := RX2) (T := TX2) (N := 16) rfl znX4_cutLine_X2 6 (by decide) (List.mem_of_getElem? (i := 5) rfl) rfl dX4_cutLine_37 ?_
      refine lv_iload_n hx hb dX4_cutLine_40 rfl (lv_at hl 3 rfl) ?_
      obtain ⟨q41, h⟩ := h
      refine zald hF hSt hH 6 (by decide) rfl (zE_6 _ _ _) q41 dX4_cutLine_41 ?_
      refine zcalliP hH (va_runSN (As := [.int (M.1 2 3), .int (M.1 6 x3.toNatClampNeg)]) (rest := []) hF (kX5_flag l G M O (M.1 2 3) (M.1 6 x3.toNatClampNeg) _ h) ⟨va_cnB 2 hts gX4_cutLine_X5_flag_n34 rfl rfl rfl (hSt.2.2.1 _ zNest_X4_34) (hts _ (List.mem_of_getElem? (i := 8) rfl)) zdX5_flag ⟨Nat.le_of_ble_eq_true rfl, Nat.le_of_ble_eq_true rfl⟩, hts _ (List.mem_of_getElem? (i := 7) rfl), trivial⟩ (zpreS hSt hH [.int (M.1 2 3), .int (M.1 6 x3.toNatClampNeg)]) rfl rfl hl.1 rfl (lv_room (Nat.le_of_ble_eq_true rfl)) dX4_cutLine_42 ⟨Nat.zero_le _, Nat.zero_le _⟩) (fun r42 H locs h hH => ?_)
      refine lv_iconst (v := (1 : Int32)) hx hb dX4_cutLine_45 (by decide) ?_
      refine lv_icmp_ne (tgt := 78) hx hb dX4_cutLine_46 (by decide) (fun q46 => ?_) (fun q46 => ?_)
      · have h := h.1 q46
        exact wX4_cutLine_b78 hF hSt hret hag4 x1 x2 x3 H locs ls hH (lv_sub hl [0, 1, 2, 3] rfl) h
      · have h := h.2 q46
        refine lv_aload_n hx hb dX4_cutLine_49 rfl (lv_at hl 0 rfl) ?_
        refine zget (v := .int (M.1 2 3)) hF hSt hH 2 (by decide) rfl (zE_2 _ _ _) (C := RX4) (T := TX4) (N := 4) rfl znX4_cutLine_X4 3 (by decide) (List.mem_of_getElem? (i := 4) rfl) rfl dX4_cutLine_50 ?_
        refine lv_aload_n hx hb dX4_cutLine_53 rfl (lv_at hl 0 rfl) ?_
        refine zget (v := .ref (G.1 1)) hF hSt hH 2 (by decide) rfl (zE_2 _ _ _) (C := RX4) (T := TX4) (N := 4) rfl znX4_cutLine_X4 0 (by decide) (List.mem_of_getElem? (i := 1) rfl) rfl dX4_cutLine_54 ?_
        refine zget (v := .ref (G.1 7)) hF hSt hH 1 (by decide) rfl (zE_1 _ _ _) (C := RX2) (T := TX2) (N := 16) rfl znX4_cutLine_X2 7 (by decide) (List.mem_of_getElem? (i := 6) rfl) rfl dX4_cutLine_57 ?_
        refine lv_iload_n hx hb dX4_cutLine_60 rfl (lv_at hl 3 rfl) ?_
        obtain ⟨q61, h⟩ := h
        refine zald hF hSt hH 7 (by decide) rfl (zE_7 _ _ _) q61 dX4_cutLine_61 ?_
        refine zcalliP hH (va_runSN (As := [.int (M.1 2 3), .int (M.1 7 x3.toNatClampNeg)]) (rest := []) hF (kX5_flag l G M O (M.1 2 3) (M.1 7 x3.toNatClampNeg) _ h) ⟨va_cnB 2 hts gX4_cutLine_X5_flag_n34 rfl rfl rfl (hSt.2.2.1 _ zNest_X4_34) (hts _ (List.mem_of_getElem? (i := 8) rfl)) zdX5_flag ⟨Nat.le_of_ble_eq_true rfl, Nat.le_of_ble_eq_true rfl⟩, hts _ (List.mem_of_getElem? (i := 7) rfl), trivial⟩ (zpreS hSt hH [.int (M.1 2 3), .int (M.1 7 x3.toNatClampNeg)]) rfl rfl hl.1 rfl (lv_room (Nat.le_of_ble_eq_true rfl)) dX4_cutLine_62 ⟨Nat.zero_le _, Nat.zero_le _⟩) (fun r62 H locs h hH => ?_)
        refine lv_if_ne (tgt := 78) hx hb dX4_cutLine_65 (by decide) (fun q65 => ?_) (fun q65 => ?_)
        · have h := h.1 q65
          exact wX4_cutLine_b78 hF hSt hret hag4 x1 x2 x3 H locs ls hH (lv_sub hl [0, 1, 2, 3] rfl) h
        · have h := h.2 q65
          refine lv_iload_n hx hb dX4_cutLine_68 rfl (lv_at hl 2 rfl) ?_
          refine lv_iload_n hx hb dX4_cutLine_69 rfl (lv_at hl 1 rfl) ?_
          refine lv_icmp_ne (tgt := 75) hx hb dX4_cutLine_70 (by decide) (fun q70 => ?_) (fun q70 => ?_)
          · have h := h.1 q70
            refine lv_iinc (v := (x2 + (1 : Int32))) (lv' := [(2, .int (x2 + (1 : Int32))), (0, .ref (G.1 2)), (1, .int x1), (3, .int x3)]) hx hb dX4_cutLine_75 hl (k := 2) rfl rfl (by decide) rfl (fun ls hl => ?_)
            exact wX4_cutLine_b78 hF hSt hret hag4 x1 (x2 + (1 : Int32)) x3 H locs ls hH (lv_sub hl [1, 2, 0, 3] rfl) h
          · have h := h.2 q70
            refine lv_iload_n hx hb dX4_cutLine_73 rfl (lv_at hl 3 rfl) ?_
            exact hret _ _ _ _ _ _ dX4_cutLine_74 ⟨rfl, h⟩ hH
def pX4_cutLine_L4 (M : zM) (post : Int32 → Prop) (x1 : Int32) (x2 : Int32) (x3 : Int32) : Prop :=
  ∃ I : Nat → Int32 → Int32 → Int32 → Prop, (∃ n, I n x1 x2 x3) ∧ ∀ n x1 x2 x3, I n x1 x2 x3 → pX4_cutLine_b4 M post (fun x1 x2 x3 => ∃ k, k < n ∧ I k x1 x2 x3) x1 x2 x3
set_option maxHeartbeats 4000000 in
theorem wX4_cutLine_L4 {M : zM} {post : Int32 → Prop}  (hF : CallFix p m c cX4_cutLine 4 s args wsX4_cutLine RX4) (hSt : zSt G s) (hret : zRi p l e ({ frames := 1, cells := 0, slots := 0, locals := 21 } : Room) s m args below meth c Q cX4_cutLine G true O (fun r M1 => M1 = M ∧ post r)) (x1 : Int32) (x2 : Int32) (x3 : Int32) (H : Heap) (locs : List Loc) (ls : Array Slot) (hH : zH G true s H locs M O) (hl : lv_has ls 4 [(0, .ref (G.1 2)), (1, .int x1), (2, .int x2), (3, .int x3)]) (h : pX4_cutLine_L4 M post x1 x2 x3) : W p l e ({ frames := 1, cells := 0, slots := 0, locals := 21 } : Room) s m args below meth c H locs 0 0 Q (F0 m 4 ls []) := by
  obtain ⟨I, ⟨n, hI⟩, hs⟩ := h
  have key : ∀ (n : Nat) (x1 : Int32) (x2 : Int32) (x3 : Int32) (H : Heap) (locs : List Loc) (ls : Array Slot), I n x1 x2 x3 → zH G true s H locs M O → lv_has ls 4 [(0, .ref (G.1 2)), (1, .int x1), (2, .int x2), (3, .int x3)] → W p l e ({ frames := 1, cells := 0, slots := 0, locals := 21 } : Room) s m args below meth c H locs 0 0 Q (F0 m 4 ls []) := by
    intro n
    induction n using Nat.strongRecOn with
    | _ n ih =>
      intro x1 x2 x3 H locs ls hI hH hl
      exact wX4_cutLine_b4 hF hSt hret (fun x1 x2 x3 H locs ls h hH hl => by obtain ⟨k, hk, hI⟩ := h; exact ih k hk x1 x2 x3 H locs ls hI hH hl) x1 x2 x3 H locs ls hH hl (hs n x1 x2 x3 hI)
  exact key n x1 x2 x3 H locs ls hI hH hl
def pX4_cutLine (M : zM) (x1 : Int32) (post : Int32 → Prop) : Prop :=
  pX4_cutLine_L4 M post x1 (0 : Int32) (0 : Int32)
set_option maxHeartbeats 4000000 in
set_option maxRecDepth 100000 in
theorem wX4_cutLine {M : zM} {post : Int32 → Prop} (hF : CallFix p m c cX4_cutLine 4 s args wsX4_cutLine RX4) (hSt : zSt G s) (hret : zRi p l e ({ frames := 1, cells := 0, slots := 0, locals := 21 } : Room) s m args below meth c Q cX4_cutLine G true O (fun r M1 => M1 = M ∧ post r)) (x1 : Int32) (H : Heap) (locs : List Loc) (ls : Array Slot) (hH : zH G true s H locs M O) (hl : lv_has ls 4 [(0, .ref (G.1 2)), (1, .int x1)]) (h : pX4_cutLine M x1 post) : W p l e ({ frames := 1, cells := 0, slots := 0, locals := 21 } : Room) s m args below meth c H locs 0 0 Q (F0 m 0 ls []) := by
  obtain ⟨hx, hb, hml, hown, hts⟩ := id hF
  unfold pX4_cutLine at h
  refine lv_iconst (v := (0 : Int32)) hx hb dX4_cutLine_0 (by decide) ?_
  refine lv_istore_n (lv' := [(2, .int (0 : Int32)), (0, .ref (G.1 2)), (1, .int x1)]) hx hb dX4_cutLine_1 rfl hl (by decide) rfl (fun ls hl => ?_)
  refine lv_iconst (v := (0 : Int32)) hx hb dX4_cutLine_2 (by decide) ?_
  refine lv_istore_n (lv' := [(3, .int (0 : Int32)), (2, .int (0 : Int32)), (0, .ref (G.1 2)), (1, .int x1)]) hx hb dX4_cutLine_3 rfl hl (by decide) rfl (fun ls hl => ?_)
  exact wX4_cutLine_L4 hF hSt hret x1 (0 : Int32) (0 : Int32) H locs ls hH (lv_sub hl [2, 3, 1, 0] rfl) h
set_option maxRecDepth 100000 in
theorem kX4_cutLine (l : Launch) (G : zG) (M O : zM) (x1 : Int32) (post : Int32 → Prop) (h : pX4_cutLine M x1 post) : Met l yX4_cutLine wsX4_cutLine ({ frames := 1, cells := 0, slots := 0, locals := 21 } : Room) (zPc G true M O [.ref (G.1 2), .int x1]) (va_Qi (fun r M1 => M1 = M ∧ post r) (zB G true O) (zAA G)) 0 0 (zAA G) :=
  zmet_i (by decide) rfl (Nat.le_of_ble_eq_true rfl) (fun hF hSt hret H locs ls hH hl => wX4_cutLine hF hSt hret x1 H locs ls hH hl h)
end
theorem znX5_cut_X5 : ∀ w ∈ wsX50, w ∈ wsX5_cut := fun _ h => List.mem_cons_of_mem _ (List.mem_append_left _ (List.mem_append_left _ (List.mem_append_right _ h)))
theorem znX5_cut_X2 : ∀ w ∈ wsX20, w ∈ wsX5_cut := fun _ h => List.mem_cons_of_mem _ (List.mem_append_left _ (List.mem_append_right _ h))
theorem znX5_cut_X4 : ∀ w ∈ wsX40, w ∈ wsX5_cut := fun _ h => List.mem_cons_of_mem _ (List.mem_append_right _ h)
theorem zdX5_cut : yX5_cut.cls ≠ "java/lang/invoke/MethodHandle" ∧ yX5_cut.cls ≠ "java/lang/invoke/VarHandle" ∧ (parseMethodDescriptor yX5_cut.desc).map (fun d => d.parameters.length) = some 2 := by decide +kernel
-- MixingRelays cut(II)I
section
variable {p : Program} {l : Launch} {e : Env} {s : State} {m : MethodId} {args : Array Value} {below : List Frame} {meth : Method} {c : Code} {Q : State → Prop} {G : zG} {O : zM}
def pX5_cut_b13 (post : Int32 → zM → Prop) (x1 : Int32) (x2 : Int32) (t0 : Int32) (M : zM) : Prop :=
  (t0 = 0 → pX4_mostTo M x1 (fun r25 M25 => pX4_cutLine M25 x2 (fun r34 => post r34 M25))) ∧ (¬ (t0 = 0) → post t0 M)
set_option maxHeartbeats 4000000 in
set_option maxRecDepth 100000 in
theorem wX5_cut_b13 {post : Int32 → zM → Prop}  (hF : CallFix p m c cX5_cut 4 s args wsX5_cut RX5) (hSt : zSt G s) (hret : zRi p l e ({ frames := 4, cells := 0, slots := 0, locals := 91 } : Room) s m args below meth c Q cX5_cut G true O post) (x1 : Int32) (x2 : Int32) (t0 : Int32) (M : zM) (H : Heap) (locs : List Loc) (ls : Array Slot) (hH : zH G true s H locs M O) (hl : lv_has ls 4 [(0, .ref (G.1 0)), (1, .int x1), (2, .int x2)]) (h : pX5_cut_b13 post x1 x2 t0 M) : W p l e ({ frames := 4, cells := 0, slots := 0, locals := 91 } : Room) s m args below meth c H locs 0 0 Q (F0 m 13 ls [.int t0]) := by
  obtain ⟨hx, hb, hml, hown, hts⟩ := id hF
  unfold pX5_cut_b13 at h
  refine lv_istore_n (lv' := [(3, .int t0), (0, .ref (G.1 0)), (1, .int x1), (2, .int x2)]) hx hb dX5_cut_13 rfl hl (by decide) rfl (fun ls hl => ?_)
  refine lv_iload_n hx hb dX5_cut_14 rfl (lv_at hl 0 rfl) ?_
  refine lv_if_eq (tgt := 20) hx hb dX5_cut_15 (by decide) (fun q15 => ?_) (fun q15 => ?_)
  · have h := h.1 q15
    refine lv_aload_n hx hb dX5_cut_20 rfl (lv_at hl 1 rfl) ?_
    refine zget (v := .ref (G.1 2)) hF hSt hH 0 (by decide) rfl (zE_0 _ _ _) (C := RX5) (T := TX5) (N := 5) rfl znX5_cut_X5 1 (by decide) (List.mem_of_getElem? (i := 1) rfl) rfl dX5_cut_21 ?_
    refine lv_iload_n hx hb dX5_cut_24 rfl (lv_at hl 2 rfl) ?_
    refine zcalli hH (va_runV (As := [.int x1]) (rest := []) hF (kX4_mostTo l G M O x1 _ h) (cwV 1 hts gX5_cut_X4_mostTo rfl rfl rfl ⟨rfl, zdX4_mostTo⟩ ⟨Nat.le_of_ble_eq_true rfl, Nat.le_of_ble_eq_true rfl⟩) (zpreV hSt hH 2 (by decide) rfl (zE_2 _ _ _) (q := (RX4, TX4, 4)) rfl [.int x1]) rfl rfl hl.1 rfl (lv_room (Nat.le_of_ble_eq_true rfl)) dX5_cut_25 ⟨Nat.zero_le _, Nat.zero_le _⟩) (fun r25 M25 H locs h hH => ?_)
    refine lv_pop hx hb dX5_cut_28 rfl ?_
    refine lv_aload_n hx hb dX5_cut_29 rfl (lv_at hl 1 rfl) ?_
    refine zget (v := .ref (G.1 2)) hF hSt hH 0 (by decide) rfl (zE_0 _ _ _) (C := RX5) (T := TX5) (N := 5) rfl znX5_cut_X5 1 (by decide) (List.mem_of_getElem? (i := 1) rfl) rfl dX5_cut_30 ?_
    refine lv_iload_n hx hb dX5_cut_33 rfl (lv_at hl 3 rfl) ?_
    refine zcalliP hH (va_runV (As := [.int x2]) (rest := []) hF (kX4_cutLine l G M25 O x2 _ h) (cwV 1 hts gX5_cut_X4_cutLine rfl rfl rfl ⟨rfl, zdX4_cutLine⟩ ⟨Nat.le_of_ble_eq_true rfl, Nat.le_of_ble_eq_true rfl⟩) (zpreV hSt hH 2 (by decide) rfl (zE_2 _ _ _) (q := (RX4, TX4, 4)) rfl [.int x2]) rfl rfl hl.1 rfl (lv_room (Nat.le_of_ble_eq_true rfl)) dX5_cut_34 ⟨Nat.zero_le _, Nat.zero_le _⟩) (fun r34 H locs h hH => ?_)
    exact hret _ _ _ _ _ _ dX5_cut_37 h hH
  · have h := h.2 q15
    refine lv_iload_n hx hb dX5_cut_18 rfl (lv_at hl 0 rfl) ?_
    exact hret _ _ _ _ _ _ dX5_cut_19 h hH
def pX5_cut (M : zM) (x1 : Int32) (x2 : Int32) (post : Int32 → zM → Prop) : Prop :=
  (0 ≤ x2 → pX5_refusalOf M x1 (fun r10 => pX5_cut_b13 post x1 x2 r10 M)) ∧ (¬ (0 ≤ x2) → pX5_cut_b13 post x1 x2 (-1 : Int32) M)
set_option maxHeartbeats 4000000 in
set_option maxRecDepth 100000 in
theorem wX5_cut {M : zM} {post : Int32 → zM → Prop} (hF : CallFix p m c cX5_cut 4 s args wsX5_cut RX5) (hSt : zSt G s) (hret : zRi p l e ({ frames := 4, cells := 0, slots := 0, locals := 91 } : Room) s m args below meth c Q cX5_cut G true O post) (x1 : Int32) (x2 : Int32) (H : Heap) (locs : List Loc) (ls : Array Slot) (hH : zH G true s H locs M O) (hl : lv_has ls 4 [(0, .ref (G.1 0)), (1, .int x1), (2, .int x2)]) (h : pX5_cut M x1 x2 post) : W p l e ({ frames := 4, cells := 0, slots := 0, locals := 91 } : Room) s m args below meth c H locs 0 0 Q (F0 m 0 ls []) := by
  obtain ⟨hx, hb, hml, hown, hts⟩ := id hF
  unfold pX5_cut at h
  refine lv_iload_n hx hb dX5_cut_0 rfl (lv_at hl 2 rfl) ?_
  refine lv_if_ge (tgt := 8) hx hb dX5_cut_1 (by decide) (fun q1 => ?_) (fun q1 => ?_)
  · have h := h.1 q1
    refine lv_aload_n hx hb dX5_cut_8 rfl (lv_at hl 0 rfl) ?_
    refine lv_iload_n hx hb dX5_cut_9 rfl (lv_at hl 1 rfl) ?_
    refine zcalliP hH (va_runV (As := [.int x1]) (rest := []) hF (kX5_refusalOf l G M O x1 _ h) (cwV 1 hts gX5_cut_X5_refusalOf rfl rfl rfl ⟨rfl, zdX5_refusalOf⟩ ⟨Nat.le_of_ble_eq_true rfl, Nat.le_of_ble_eq_true rfl⟩) (zpreV hSt hH 0 (by decide) rfl (zE_0 _ _ _) (q := (RX5, TX5, 5)) rfl [.int x1]) rfl rfl hl.1 rfl (lv_room (Nat.le_of_ble_eq_true rfl)) dX5_cut_10 ⟨Nat.zero_le _, Nat.zero_le _⟩) (fun r10 H locs h hH => ?_)
    exact wX5_cut_b13 hF hSt hret x1 x2 r10 M H locs ls hH (lv_sub hl [0, 1, 2] rfl) h
  · have h := h.2 q1
    refine lv_iconst (v := (-1 : Int32)) hx hb dX5_cut_4 (by decide) ?_
    refine lv_goto (tgt := 13) hx hb dX5_cut_5 (by decide) ?_
    exact wX5_cut_b13 hF hSt hret x1 x2 (-1 : Int32) M H locs ls hH (lv_sub hl [0, 1, 2] rfl) h
set_option maxRecDepth 100000 in
theorem kX5_cut (l : Launch) (G : zG) (M O : zM) (x1 : Int32) (x2 : Int32) (post : Int32 → zM → Prop) (h : pX5_cut M x1 x2 post) : Met l yX5_cut wsX5_cut ({ frames := 4, cells := 0, slots := 0, locals := 91 } : Room) (zPc G true M O [.ref (G.1 0), .int x1, .int x2]) (va_Qi post (zB G true O) (zAA G)) 0 0 (zAA G) :=
  zmet_i (by decide) rfl (Nat.le_of_ble_eq_true rfl) (fun hF hSt hret H locs ls hH hl => wX5_cut hF hSt hret x1 x2 H locs ls hH hl h)
end
theorem znX5_rate_X5 : ∀ w ∈ wsX50, w ∈ wsX5_rate := fun _ h => List.mem_cons_of_mem _ (List.mem_append_left _ (List.mem_append_left _ (List.mem_append_right _ h)))
theorem znX5_rate_X2 : ∀ w ∈ wsX20, w ∈ wsX5_rate := fun _ h => List.mem_cons_of_mem _ (List.mem_append_left _ (List.mem_append_right _ h))
theorem znX5_rate_X4 : ∀ w ∈ wsX40, w ∈ wsX5_rate := fun _ h => List.mem_cons_of_mem _ (List.mem_append_right _ h)
theorem zdX5_rate : yX5_rate.cls ≠ "java/lang/invoke/MethodHandle" ∧ yX5_rate.cls ≠ "java/lang/invoke/VarHandle" ∧ (parseMethodDescriptor yX5_rate.desc).map (fun d => d.parameters.length) = some 0 := by decide +kernel
-- MixingRelays rate()I
section
variable {p : Program} {l : Launch} {e : Env} {s : State} {m : MethodId} {args : Array Value} {below : List Frame} {meth : Method} {c : Code} {Q : State → Prop} {G : zG} {O : zM}
def pX5_rate_b70 (post : Int32 → zM → Prop) (t0 : Int32) (M : zM) : Prop :=
  post t0 M
set_option maxHeartbeats 4000000 in
set_option maxRecDepth 100000 in
theorem wX5_rate_b70 {post : Int32 → zM → Prop}  (hF : CallFix p m c cX5_rate 4 s args wsX5_rate RX5) (hSt : zSt G s) (hret : zRi p l e ({ frames := 4, cells := 0, slots := 0, locals := 91 } : Room) s m args below meth c Q cX5_rate G true O post) (t0 : Int32) (M : zM) (H : Heap) (locs : List Loc) (ls : Array Slot) (hH : zH G true s H locs M O) (hl : lv_has ls 4 []) (h : pX5_rate_b70 post t0 M) : W p l e ({ frames := 4, cells := 0, slots := 0, locals := 91 } : Room) s m args below meth c H locs 0 0 Q (F0 m 70 ls [.int t0]) := by
  obtain ⟨hx, hb, hml, hown, hts⟩ := id hF
  unfold pX5_rate_b70 at h
  exact hret _ _ _ _ _ _ dX5_rate_70 h hH
def pX5_rate_b54 (post : Int32 → zM → Prop) (ag4 : Int32 → Int32 → zM → Prop) (x1 : Int32) (x2 : Int32) (M : zM) : Prop :=
  ag4 x1 (x2 + (1 : Int32)) M
set_option maxHeartbeats 4000000 in
set_option maxRecDepth 100000 in
theorem wX5_rate_b54 {post : Int32 → zM → Prop} {ag4 : Int32 → Int32 → zM → Prop} (hF : CallFix p m c cX5_rate 4 s args wsX5_rate RX5) (hSt : zSt G s) (hret : zRi p l e ({ frames := 4, cells := 0, slots := 0, locals := 91 } : Room) s m args below meth c Q cX5_rate G true O post) (hag4 : ∀ (x1 : Int32) (x2 : Int32) (M : zM) (H : Heap) (locs : List Loc) (ls : Array Slot), ag4 x1 x2 M → zH G true s H locs M O → lv_has ls 4 [(0, .ref (G.1 0)), (1, .int x1), (2, .int x2)] → W p l e ({ frames := 4, cells := 0, slots := 0, locals := 91 } : Room) s m args below meth c H locs 0 0 Q (F0 m 4 ls [])) (x1 : Int32) (x2 : Int32) (M : zM) (H : Heap) (locs : List Loc) (ls : Array Slot) (hH : zH G true s H locs M O) (hl : lv_has ls 4 [(0, .ref (G.1 0)), (1, .int x1), (2, .int x2)]) (h : pX5_rate_b54 post ag4 x1 x2 M) : W p l e ({ frames := 4, cells := 0, slots := 0, locals := 91 } : Room) s m args below meth c H locs 0 0 Q (F0 m 54 ls []) := by
  obtain ⟨hx, hb, hml, hown, hts⟩ := id hF
  unfold pX5_rate_b54 at h
  refine lv_iinc (v := (x2 + (1 : Int32))) (lv' := [(2, .int (x2 + (1 : Int32))), (0, .ref (G.1 0)), (1, .int x1)]) hx hb dX5_rate_54 hl (k := 2) rfl rfl (by decide) rfl (fun ls hl => ?_)
  refine lv_goto (tgt := 4) hx hb dX5_rate_57 (by decide) ?_
  exact hag4 x1 (x2 + (1 : Int32)) M H locs ls h hH (lv_sub hl [1, 2, 0] rfl)
def pX5_rate_b53 (post : Int32 → zM → Prop) (ag4 : Int32 → Int32 → zM → Prop) (x2 : Int32) (t0 : Int32) (M : zM) : Prop :=
  pX5_rate_b54 post ag4 t0 x2 M
set_option maxHeartbeats 4000000 in
set_option maxRecDepth 100000 in
theorem wX5_rate_b53 {post : Int32 → zM → Prop} {ag4 : Int32 → Int32 → zM → Prop} (hF : CallFix p m c cX5_rate 4 s args wsX5_rate RX5) (hSt : zSt G s) (hret : zRi p l e ({ frames := 4, cells := 0, slots := 0, locals := 91 } : Room) s m args below meth c Q cX5_rate G true O post) (hag4 : ∀ (x1 : Int32) (x2 : Int32) (M : zM) (H : Heap) (locs : List Loc) (ls : Array Slot), ag4 x1 x2 M → zH G true s H locs M O → lv_has ls 4 [(0, .ref (G.1 0)), (1, .int x1), (2, .int x2)] → W p l e ({ frames := 4, cells := 0, slots := 0, locals := 91 } : Room) s m args below meth c H locs 0 0 Q (F0 m 4 ls [])) (x2 : Int32) (t0 : Int32) (M : zM) (H : Heap) (locs : List Loc) (ls : Array Slot) (hH : zH G true s H locs M O) (hl : lv_has ls 4 [(0, .ref (G.1 0)), (2, .int x2)]) (h : pX5_rate_b53 post ag4 x2 t0 M) : W p l e ({ frames := 4, cells := 0, slots := 0, locals := 91 } : Room) s m args below meth c H locs 0 0 Q (F0 m 53 ls [.int t0]) := by
  obtain ⟨hx, hb, hml, hown, hts⟩ := id hF
  unfold pX5_rate_b53 at h
  refine lv_istore_n (lv' := [(1, .int t0), (0, .ref (G.1 0)), (2, .int x2)]) hx hb dX5_rate_53 rfl hl (by decide) rfl (fun ls hl => ?_)
  exact wX5_rate_b54 hF hSt hret hag4 t0 x2 M H locs ls hH (lv_sub hl [1, 0, 2] rfl) h
def pX5_rate_b4 (post : Int32 → zM → Prop) (ag4 : Int32 → Int32 → zM → Prop) (x1 : Int32) (x2 : Int32) (M : zM) : Prop :=
  ((M.1 1 0) ≤ x2 → (¬ (x1 = (-1 : Int32)) → pX5_rate_b70 post x1 M) ∧ (x1 = (-1 : Int32) → pX5_rate_b70 post (0 : Int32) M)) ∧ (¬ ((M.1 1 0) ≤ x2) → pX5_flag (M.1 1 3) x2 (fun r23 => (¬ (r23 = (1 : Int32)) → pX5_rate_b54 post ag4 x1 x2 M) ∧ (r23 = (1 : Int32) → pX4_mostTo M x2 (fun r35 M35 => (¬ (x1 = (-1 : Int32)) → pX5_rate_b53 post ag4 x2 (if r35 < x1 then r35 else x1) M35) ∧ (x1 = (-1 : Int32) → pX5_rate_b53 post ag4 x2 r35 M35)))))
set_option maxHeartbeats 4000000 in
set_option maxRecDepth 100000 in
theorem wX5_rate_b4 {post : Int32 → zM → Prop} {ag4 : Int32 → Int32 → zM → Prop} (hF : CallFix p m c cX5_rate 4 s args wsX5_rate RX5) (hSt : zSt G s) (hret : zRi p l e ({ frames := 4, cells := 0, slots := 0, locals := 91 } : Room) s m args below meth c Q cX5_rate G true O post) (hag4 : ∀ (x1 : Int32) (x2 : Int32) (M : zM) (H : Heap) (locs : List Loc) (ls : Array Slot), ag4 x1 x2 M → zH G true s H locs M O → lv_has ls 4 [(0, .ref (G.1 0)), (1, .int x1), (2, .int x2)] → W p l e ({ frames := 4, cells := 0, slots := 0, locals := 91 } : Room) s m args below meth c H locs 0 0 Q (F0 m 4 ls [])) (x1 : Int32) (x2 : Int32) (M : zM) (H : Heap) (locs : List Loc) (ls : Array Slot) (hH : zH G true s H locs M O) (hl : lv_has ls 4 [(0, .ref (G.1 0)), (1, .int x1), (2, .int x2)]) (h : pX5_rate_b4 post ag4 x1 x2 M) : W p l e ({ frames := 4, cells := 0, slots := 0, locals := 91 } : Room) s m args below meth c H locs 0 0 Q (F0 m 4 ls []) := by
  obtain ⟨hx, hb, hml, hown, hts⟩ := id hF
  unfold pX5_rate_b4 at h
  refine lv_iload_n hx hb dX5_rate_4 rfl (lv_at hl 2 rfl) ?_
  refine lv_aload_n hx hb dX5_rate_5 rfl (lv_at hl 0 rfl) ?_
  refine zget (v := .ref (G.1 1)) hF hSt hH 0 (by decide) rfl (zE_0 _ _ _) (C := RX5) (T := TX5) (N := 5) rfl znX5_rate_X5 0 (by decide) (List.mem_of_getElem? (i := 1) rfl) rfl dX5_rate_6 ?_
  refine zget (v := .int (M.1 1 0)) hF hSt hH 1 (by decide) rfl (zE_1 _ _ _) (C := RX2) (T := TX2) (N := 16) rfl znX5_rate_X2 0 (by decide) (List.mem_of_getElem? (i := 2) rfl) rfl dX5_rate_9 ?_
  refine lv_icmp_ge (tgt := 60) hx hb dX5_rate_12 (by decide) (fun q12 => ?_) (fun q12 => ?_)
  · have h := h.1 q12
    refine lv_iload_n hx hb dX5_rate_60 rfl (lv_at hl 1 rfl) ?_
    refine lv_iconst (v := (-1 : Int32)) hx hb dX5_rate_61 (by decide) ?_
    refine lv_icmp_ne (tgt := 69) hx hb dX5_rate_62 (by decide) (fun q62 => ?_) (fun q62 => ?_)
    · have h := h.1 q62
      refine lv_iload_n hx hb dX5_rate_69 rfl (lv_at hl 1 rfl) ?_
      exact wX5_rate_b70 hF hSt hret x1 M H locs ls hH (lv_sub hl [] rfl) h
    · have h := h.2 q62
      refine lv_iconst (v := (0 : Int32)) hx hb dX5_rate_65 (by decide) ?_
      refine lv_goto (tgt := 70) hx hb dX5_rate_66 (by decide) ?_
      exact wX5_rate_b70 hF hSt hret (0 : Int32) M H locs ls hH (lv_sub hl [] rfl) h
  · have h := h.2 q12
    refine lv_aload_n hx hb dX5_rate_15 rfl (lv_at hl 0 rfl) ?_
    refine zget (v := .ref (G.1 1)) hF hSt hH 0 (by decide) rfl (zE_0 _ _ _) (C := RX5) (T := TX5) (N := 5) rfl znX5_rate_X5 0 (by decide) (List.mem_of_getElem? (i := 1) rfl) rfl dX5_rate_16 ?_
    refine zget (v := .int (M.1 1 3)) hF hSt hH 1 (by decide) rfl (zE_1 _ _ _) (C := RX2) (T := TX2) (N := 16) rfl znX5_rate_X2 3 (by decide) (List.mem_of_getElem? (i := 3) rfl) rfl dX5_rate_19 ?_
    refine lv_iload_n hx hb dX5_rate_22 rfl (lv_at hl 2 rfl) ?_
    refine zcalliP hH (va_runS (As := [.int (M.1 1 3), .int x2]) (rest := []) hF (kX5_flag l G M O (M.1 1 3) x2 _ h) (va_cwS 2 hts gX5_rate_X5_flag rfl rfl rfl zdX5_flag ⟨Nat.le_of_ble_eq_true rfl, Nat.le_of_ble_eq_true rfl⟩) (zpreS hSt hH [.int (M.1 1 3), .int x2]) rfl rfl hl.1 rfl (lv_room (Nat.le_of_ble_eq_true rfl)) dX5_rate_23 ⟨Nat.zero_le _, Nat.zero_le _⟩) (fun r23 H locs h hH => ?_)
    refine lv_iconst (v := (1 : Int32)) hx hb dX5_rate_26 (by decide) ?_
    refine lv_icmp_ne (tgt := 54) hx hb dX5_rate_27 (by decide) (fun q27 => ?_) (fun q27 => ?_)
    · have h := h.1 q27
      exact wX5_rate_b54 hF hSt hret hag4 x1 x2 M H locs ls hH (lv_sub hl [0, 1, 2] rfl) h
    · have h := h.2 q27
      refine lv_aload_n hx hb dX5_rate_30 rfl (lv_at hl 0 rfl) ?_
      refine zget (v := .ref (G.1 2)) hF hSt hH 0 (by decide) rfl (zE_0 _ _ _) (C := RX5) (T := TX5) (N := 5) rfl znX5_rate_X5 1 (by decide) (List.mem_of_getElem? (i := 4) rfl) rfl dX5_rate_31 ?_
      refine lv_iload_n hx hb dX5_rate_34 rfl (lv_at hl 2 rfl) ?_
      refine zcalli hH (va_runV (As := [.int x2]) (rest := []) hF (kX4_mostTo l G M O x2 _ h) (cwV 1 hts gX5_rate_X4_mostTo rfl rfl rfl ⟨rfl, zdX4_mostTo⟩ ⟨Nat.le_of_ble_eq_true rfl, Nat.le_of_ble_eq_true rfl⟩) (zpreV hSt hH 2 (by decide) rfl (zE_2 _ _ _) (q := (RX4, TX4, 4)) rfl [.int x2]) rfl rfl hl.1 rfl (lv_room (Nat.le_of_ble_eq_true rfl)) dX5_rate_35 ⟨Nat.zero_le _, Nat.zero_le _⟩) (fun r35 M35 H locs h hH => ?_)
      refine lv_istore_n (lv' := [(3, .int r35), (0, .ref (G.1 0)), (1, .int x1), (2, .int x2)]) hx hb dX5_rate_38 rfl hl (by decide) rfl (fun ls hl => ?_)
      refine lv_iload_n hx hb dX5_rate_39 rfl (lv_at hl 2 rfl) ?_
      refine lv_iconst (v := (-1 : Int32)) hx hb dX5_rate_40 (by decide) ?_
      refine lv_icmp_ne (tgt := 48) hx hb dX5_rate_41 (by decide) (fun q41 => ?_) (fun q41 => ?_)
      · have h := h.1 q41
        refine lv_iload_n hx hb dX5_rate_48 rfl (lv_at hl 2 rfl) ?_
        refine lv_iload_n hx hb dX5_rate_49 rfl (lv_at hl 0 rfl) ?_
        refine va_mmin hx hb (hml.trans hl.1.symm) hown (hts _ (List.mem_of_getElem? (i := 5) rfl)) (hts _ (List.mem_of_getElem? (i := 6) rfl)) (hts _ (List.mem_of_getElem? (i := 7) rfl)) (hts _ (List.mem_of_getElem? (i := 8) rfl)) (by decide) (by decide) (by decide) (by decide) dX5_rate_50 ?_
        exact wX5_rate_b53 hF hSt hret hag4 x2 (if r35 < x1 then r35 else x1) M35 H locs ls hH (lv_sub hl [1, 3] rfl) h
      · have h := h.2 q41
        refine lv_iload_n hx hb dX5_rate_44 rfl (lv_at hl 0 rfl) ?_
        refine lv_goto (tgt := 53) hx hb dX5_rate_45 (by decide) ?_
        exact wX5_rate_b53 hF hSt hret hag4 x2 r35 M35 H locs ls hH (lv_sub hl [1, 3] rfl) h
def pX5_rate_L4 (post : Int32 → zM → Prop) (x1 : Int32) (x2 : Int32) (M : zM) : Prop :=
  ∃ I : Nat → Int32 → Int32 → zM → Prop, (∃ n, I n x1 x2 M) ∧ ∀ n x1 x2 M, I n x1 x2 M → pX5_rate_b4 post (fun x1 x2 M => ∃ k, k < n ∧ I k x1 x2 M) x1 x2 M
set_option maxHeartbeats 4000000 in
theorem wX5_rate_L4 {post : Int32 → zM → Prop}  (hF : CallFix p m c cX5_rate 4 s args wsX5_rate RX5) (hSt : zSt G s) (hret : zRi p l e ({ frames := 4, cells := 0, slots := 0, locals := 91 } : Room) s m args below meth c Q cX5_rate G true O post) (x1 : Int32) (x2 : Int32) (M : zM) (H : Heap) (locs : List Loc) (ls : Array Slot) (hH : zH G true s H locs M O) (hl : lv_has ls 4 [(0, .ref (G.1 0)), (1, .int x1), (2, .int x2)]) (h : pX5_rate_L4 post x1 x2 M) : W p l e ({ frames := 4, cells := 0, slots := 0, locals := 91 } : Room) s m args below meth c H locs 0 0 Q (F0 m 4 ls []) := by
  obtain ⟨I, ⟨n, hI⟩, hs⟩ := h
  have key : ∀ (n : Nat) (x1 : Int32) (x2 : Int32) (M : zM) (H : Heap) (locs : List Loc) (ls : Array Slot), I n x1 x2 M → zH G true s H locs M O → lv_has ls 4 [(0, .ref (G.1 0)), (1, .int x1), (2, .int x2)] → W p l e ({ frames := 4, cells := 0, slots := 0, locals := 91 } : Room) s m args below meth c H locs 0 0 Q (F0 m 4 ls []) := by
    intro n
    induction n using Nat.strongRecOn with
    | _ n ih =>
      intro x1 x2 M H locs ls hI hH hl
      exact wX5_rate_b4 hF hSt hret (fun x1 x2 M H locs ls h hH hl => by obtain ⟨k, hk, hI⟩ := h; exact ih k hk x1 x2 M H locs ls hI hH hl) x1 x2 M H locs ls hH hl (hs n x1 x2 M hI)
  exact key n x1 x2 M H locs ls hI hH hl
def pX5_rate (M : zM)  (post : Int32 → zM → Prop) : Prop :=
  pX5_rate_L4 post (-1 : Int32) (1 : Int32) M
set_option maxHeartbeats 4000000 in
set_option maxRecDepth 100000 in
theorem wX5_rate {M : zM} {post : Int32 → zM → Prop} (hF : CallFix p m c cX5_rate 4 s args wsX5_rate RX5) (hSt : zSt G s) (hret : zRi p l e ({ frames := 4, cells := 0, slots := 0, locals := 91 } : Room) s m args below meth c Q cX5_rate G true O post)  (H : Heap) (locs : List Loc) (ls : Array Slot) (hH : zH G true s H locs M O) (hl : lv_has ls 4 [(0, .ref (G.1 0))]) (h : pX5_rate M  post) : W p l e ({ frames := 4, cells := 0, slots := 0, locals := 91 } : Room) s m args below meth c H locs 0 0 Q (F0 m 0 ls []) := by
  obtain ⟨hx, hb, hml, hown, hts⟩ := id hF
  unfold pX5_rate at h
  refine lv_iconst (v := (-1 : Int32)) hx hb dX5_rate_0 (by decide) ?_
  refine lv_istore_n (lv' := [(1, .int (-1 : Int32)), (0, .ref (G.1 0))]) hx hb dX5_rate_1 rfl hl (by decide) rfl (fun ls hl => ?_)
  refine lv_iconst (v := (1 : Int32)) hx hb dX5_rate_2 (by decide) ?_
  refine lv_istore_n (lv' := [(2, .int (1 : Int32)), (1, .int (-1 : Int32)), (0, .ref (G.1 0))]) hx hb dX5_rate_3 rfl hl (by decide) rfl (fun ls hl => ?_)
  exact wX5_rate_L4 hF hSt hret (-1 : Int32) (1 : Int32) M H locs ls hH (lv_sub hl [2, 1, 0] rfl) h
set_option maxRecDepth 100000 in
theorem kX5_rate (l : Launch) (G : zG) (M O : zM)  (post : Int32 → zM → Prop) (h : pX5_rate M  post) : Met l yX5_rate wsX5_rate ({ frames := 4, cells := 0, slots := 0, locals := 91 } : Room) (zPc G true M O [.ref (G.1 0)]) (va_Qi post (zB G true O) (zAA G)) 0 0 (zAA G) :=
  zmet_i (by decide) rfl (Nat.le_of_ble_eq_true rfl) (fun hF hSt hret H locs ls hH hl => wX5_rate hF hSt hret  H locs ls hH hl h)
end
