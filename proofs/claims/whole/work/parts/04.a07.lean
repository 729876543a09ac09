theorem znX3_unfinishedEnds_X3 : ∀ w ∈ wsX30, w ∈ wsX3_unfinishedEnds := fun _ h => List.mem_cons_of_mem _ (List.mem_append_left _ (List.mem_append_right _ h))
theorem znX3_unfinishedEnds_X2 : ∀ w ∈ wsX20, w ∈ wsX3_unfinishedEnds := fun _ h => List.mem_cons_of_mem _ (List.mem_append_right _ h)
theorem zdX3_unfinishedEnds : yX3_unfinishedEnds.cls ≠ "java/lang/invoke/MethodHandle" ∧ yX3_unfinishedEnds.cls ≠ "java/lang/invoke/VarHandle" ∧ (parseMethodDescriptor yX3_unfinishedEnds.desc).map (fun d => d.parameters.length) = some 0 := by decide +kernel
-- MixingRelays$Span unfinishedEnds()I
section
variable {p : Program} {l : Launch} {e : Env} {s : State} {m : MethodId} {args : Array Value} {below : List Frame} {meth : Method} {c : Code} {Q : State → Prop} {G : zG} {O : zM}
def pX3_unfinishedEnds_b62 (post : Int32 → zM → Prop) (ag18 : Int32 → Int32 → zM → Prop) (x1 : Int32) (x2 : Int32) (M : zM) : Prop :=
  ag18 x1 (x2 + (1 : Int32)) M
set_option maxHeartbeats 4000000 in
set_option maxRecDepth 100000 in
theorem wX3_unfinishedEnds_b62 {post : Int32 → zM → Prop} {ag18 : Int32 → Int32 → zM → Prop} (hF : CallFix p m c cX3_unfinishedEnds 3 s args wsX3_unfinishedEnds RX3) (hSt : zSt G s) (hret : zRi p l e ({ frames := 4, cells := 0, slots := 0, locals := 102 } : Room) s m args below meth c Q cX3_unfinishedEnds G true O post) (hag18 : ∀ (x1 : Int32) (x2 : Int32) (M : zM) (H : Heap) (locs : List Loc) (ls : Array Slot), ag18 x1 x2 M → zH G true s H locs M O → lv_has ls 3 [(0, .ref (G.1 3)), (1, .int x1), (2, .int x2)] → W p l e ({ frames := 4, cells := 0, slots := 0, locals := 102 } : Room) s m args below meth c H locs 0 0 Q (F0 m 18 ls [])) (x1 : Int32) (x2 : Int32) (M : zM) (H : Heap) (locs : List Loc) (ls : Array Slot) (hH : zH G true s H locs M O) (hl : lv_has ls 3 [(0, .ref (G.1 3)), (1, .int x1), (2, .int x2)]) (h : pX3_unfinishedEnds_b62 post ag18 x1 x2 M) : W p l e ({ frames := 4, cells := 0, slots := 0, locals := 102 } : Room) s m args below meth c H locs 0 0 Q (F0 m 62 ls []) := by
  obtain ⟨hx, hb, hml, hown, hts⟩ := id hF
  unfold pX3_unfinishedEnds_b62 at h
  refine lv_iinc (v := (x2 + (1 : Int32))) (lv' := [(2, .int (x2 + (1 : Int32))), (0, .ref (G.1 3)), (1, .int x1)]) hx hb dX3_unfinishedEnds_62 hl (k := 2) rfl rfl (by decide) rfl (fun ls hl => ?_)
  refine lv_goto (tgt := 18) hx hb dX3_unfinishedEnds_65 (by decide) ?_
  exact hag18 x1 (x2 + (1 : Int32)) M H locs ls h hH (lv_sub hl [1, 2, 0] rfl)
def pX3_unfinishedEnds_b18 (post : Int32 → zM → Prop) (ag18 : Int32 → Int32 → zM → Prop) (x1 : Int32) (x2 : Int32) (M : zM) : Prop :=
  ((M.1 1 0) ≤ x2 → post x1 M) ∧ (¬ ((M.1 1 0) ≤ x2) → pX5_flag (M.1 1 3) x2 (fun r37 => (¬ (r37 = (1 : Int32)) → pX3_unfinishedEnds_b62 post ag18 x1 x2 M) ∧ (r37 = (1 : Int32) → pX3_gather M x2 (fun r46 M46 => ((M46.1 1 2) ≤ r46 → pX3_unfinishedEnds_b62 post ag18 x1 x2 M46) ∧ (¬ ((M46.1 1 2) ≤ r46) → pX3_unfinishedEnds_b62 post ag18 (x1 + (1 : Int32)) x2 M46)))))
set_option maxHeartbeats 4000000 in
set_option maxRecDepth 100000 in
theorem wX3_unfinishedEnds_b18 {post : Int32 → zM → Prop} {ag18 : Int32 → Int32 → zM → Prop} (hF : CallFix p m c cX3_unfinishedEnds 3 s args wsX3_unfinishedEnds RX3) (hSt : zSt G s) (hret : zRi p l e ({ frames := 4, cells := 0, slots := 0, locals := 102 } : Room) s m args below meth c Q cX3_unfinishedEnds G true O post) (hag18 : ∀ (x1 : Int32) (x2 : Int32) (M : zM) (H : Heap) (locs : List Loc) (ls : Array Slot), ag18 x1 x2 M → zH G true s H locs M O → lv_has ls 3 [(0, .ref (G.1 3)), (1, .int x1), (2, .int x2)] → W p l e ({ frames := 4, cells := 0, slots := 0, locals := 102 } : Room) s m args below meth c H locs 0 0 Q (F0 m 18 ls [])) (x1 : Int32) (x2 : Int32) (M : zM) (H : Heap) (locs : List Loc) (ls : Array Slot) (hH : zH G true s H locs M O) (hl : lv_has ls 3 [(0, .ref (G.1 3)), (1, .int x1), (2, .int x2)]) (h : pX3_unfinishedEnds_b18 post ag18 x1 x2 M) : W p l e ({ frames := 4, cells := 0, slots := 0, locals := 102 } : Room) s m args below meth c H locs 0 0 Q (F0 m 18 ls []) := by
  obtain ⟨hx, hb, hml, hown, hts⟩ := id hF
  unfold pX3_unfinishedEnds_b18 at h
  refine lv_iload_n hx hb dX3_unfinishedEnds_18 rfl (lv_at hl 2 rfl) ?_
  refine lv_aload_n hx hb dX3_unfinishedEnds_19 rfl (lv_at hl 0 rfl) ?_
  refine zget (v := .ref (G.1 1)) hF hSt hH 3 (by decide) rfl (zE_3 _ _ _) (C := RX3) (T := TX3) (N := 4) rfl znX3_unfinishedEnds_X3 0 (by decide) (List.mem_of_getElem? (i := 1) rfl) rfl dX3_unfinishedEnds_20 ?_
  refine zget (v := .int (M.1 1 0)) hF hSt hH 1 (by decide) rfl (zE_1 _ _ _) (C := RX2) (T := TX2) (N := 16) rfl znX3_unfinishedEnds_X2 0 (by decide) (List.mem_of_getElem? (i := 3) rfl) rfl dX3_unfinishedEnds_23 ?_
  refine lv_icmp_ge (tgt := 68) hx hb dX3_unfinishedEnds_26 (by decide) (fun q26 => ?_) (fun q26 => ?_)
  · have h := h.1 q26
    refine lv_iload_n hx hb dX3_unfinishedEnds_68 rfl (lv_at hl 1 rfl) ?_
    exact hret _ _ _ _ _ _ dX3_unfinishedEnds_69 h hH
  · have h := h.2 q26
    refine lv_aload_n hx hb dX3_unfinishedEnds_29 rfl (lv_at hl 0 rfl) ?_
    refine zget (v := .ref (G.1 1)) hF hSt hH 3 (by decide) rfl (zE_3 _ _ _) (C := RX3) (T := TX3) (N := 4) rfl znX3_unfinishedEnds_X3 0 (by decide) (List.mem_of_getElem? (i := 1) rfl) rfl dX3_unfinishedEnds_30 ?_
    refine zget (v := .int (M.1 1 3)) hF hSt hH 1 (by decide) rfl (zE_1 _ _ _) (C := RX2) (T := TX2) (N := 16) rfl znX3_unfinishedEnds_X2 3 (by decide) (List.mem_of_getElem? (i := 4) rfl) rfl dX3_unfinishedEnds_33 ?_
    refine lv_iload_n hx hb dX3_unfinishedEnds_36 rfl (lv_at hl 2 rfl) ?_
    refine zcalliP hH (va_runSN (As := [.int (M.1 1 3), .int x2]) (rest := []) hF (kX5_flag l G M O (M.1 1 3) x2 _ h) ⟨va_cnB 2 hts gX3_unfinishedEnds_X5_flag_n110 rfl rfl rfl (hSt.2.2.1 _ zNest_X3_110) (hts _ (List.mem_of_getElem? (i := 15) rfl)) zdX5_flag ⟨Nat.le_of_ble_eq_true rfl, Nat.le_of_ble_eq_true rfl⟩, hts _ (List.mem_of_getElem? (i := 14) rfl), trivial⟩ (zpreS hSt hH [.int (M.1 1 3), .int x2]) rfl rfl hl.1 rfl (lv_room (Nat.le_of_ble_eq_true rfl)) dX3_unfinishedEnds_37 ⟨Nat.zero_le _, Nat.zero_le _⟩) (fun r37 H locs h hH => ?_)
    refine lv_iconst (v := (1 : Int32)) hx hb dX3_unfinishedEnds_40 (by decide) ?_
    refine lv_icmp_ne (tgt := 62) hx hb dX3_unfinishedEnds_41 (by decide) (fun q41 => ?_) (fun q41 => ?_)
    · have h := h.1 q41
      exact wX3_unfinishedEnds_b62 hF hSt hret hag18 x1 x2 M H locs ls hH (lv_sub hl [0, 1, 2] rfl) h
    · have h := h.2 q41
      refine lv_aload_n hx hb dX3_unfinishedEnds_44 rfl (lv_at hl 0 rfl) ?_
      refine lv_iload_n hx hb dX3_unfinishedEnds_45 rfl (lv_at hl 2 rfl) ?_
      refine zcalli hH (va_runV (As := [.int x2]) (rest := []) hF (kX3_gather l G M O x2 _ h) (cwV 1 hts gX3_unfinishedEnds_X3_gather rfl rfl rfl ⟨rfl, zdX3_gather⟩ ⟨Nat.le_of_ble_eq_true rfl, Nat.le_of_ble_eq_true rfl⟩) (zpreV hSt hH 3 (by decide) rfl (zE_3 _ _ _) (q := (RX3, TX3, 4)) rfl [.int x2]) rfl rfl hl.1 rfl (lv_room (Nat.le_of_ble_eq_true rfl)) dX3_unfinishedEnds_46 ⟨Nat.zero_le _, Nat.zero_le _⟩) (fun r46 M46 H locs h hH => ?_)
      refine lv_aload_n hx hb dX3_unfinishedEnds_49 rfl (lv_at hl 0 rfl) ?_
      refine zget (v := .ref (G.1 1)) hF hSt hH 3 (by decide) rfl (zE_3 _ _ _) (C := RX3) (T := TX3) (N := 4) rfl znX3_unfinishedEnds_X3 0 (by decide) (List.mem_of_getElem? (i := 1) rfl) rfl dX3_unfinishedEnds_50 ?_
      refine zget (v := .int (M46.1 1 2)) hF hSt hH 1 (by decide) rfl (zE_1 _ _ _) (C := RX2) (T := TX2) (N := 16) rfl znX3_unfinishedEnds_X2 2 (by decide) (List.mem_of_getElem? (i := 5) rfl) rfl dX3_unfinishedEnds_53 ?_
      refine lv_icmp_ge (tgt := 62) hx hb dX3_unfinishedEnds_56 (by decide) (fun q56 => ?_) (fun q56 => ?_)
      · have h := h.1 q56
        exact wX3_unfinishedEnds_b62 hF hSt hret hag18 x1 x2 M46 H locs ls hH (lv_sub hl [0, 1, 2] rfl) h
      · have h := h.2 q56
        refine lv_iinc (v := (x1 + (1 : Int32))) (lv' := [(1, .int (x1 + (1 : Int32))), (0, .ref (G.1 3)), (2, .int x2)]) hx hb dX3_unfinishedEnds_59 hl (k := 1) rfl rfl (by decide) rfl (fun ls hl => ?_)
        exact wX3_unfinishedEnds_b62 hF hSt hret hag18 (x1 + (1 : Int32)) x2 M46 H locs ls hH (lv_sub hl [1, 0, 2] rfl) h
def pX3_unfinishedEnds_L18 (post : Int32 → zM → Prop) (x1 : Int32) (x2 : Int32) (M : zM) : Prop :=
  ∃ I : Nat → Int32 → Int32 → zM → Prop, (∃ n, I n x1 x2 M) ∧ ∀ n x1 x2 M, I n x1 x2 M → pX3_unfinishedEnds_b18 post (fun x1 x2 M => ∃ k, k < n ∧ I k x1 x2 M) x1 x2 M
set_option maxHeartbeats 4000000 in
theorem wX3_unfinishedEnds_L18 {post : Int32 → zM → Prop}  (hF : CallFix p m c cX3_unfinishedEnds 3 s args wsX3_unfinishedEnds RX3) (hSt : zSt G s) (hret : zRi p l e ({ frames := 4, cells := 0, slots := 0, locals := 102 } : Room) s m args below meth c Q cX3_unfinishedEnds G true O post) (x1 : Int32) (x2 : Int32) (M : zM) (H : Heap) (locs : List Loc) (ls : Array Slot) (hH : zH G true s H locs M O) (hl : lv_has ls 3 [(0, .ref (G.1 3)), (1, .int x1), (2, .int x2)]) (h : pX3_unfinishedEnds_L18 post x1 x2 M) : W p l e ({ frames := 4, cells := 0, slots := 0, locals := 102 } : Room) s m args below meth c H locs 0 0 Q (F0 m 18 ls []) := by
  obtain ⟨I, ⟨n, hI⟩, hs⟩ := h
  have key : ∀ (n : Nat) (x1 : Int32) (x2 : Int32) (M : zM) (H : Heap) (locs : List Loc) (ls : Array Slot), I n x1 x2 M → zH G true s H locs M O → lv_has ls 3 [(0, .ref (G.1 3)), (1, .int x1), (2, .int x2)] → W p l e ({ frames := 4, cells := 0, slots := 0, locals := 102 } : Room) s m args below meth c H locs 0 0 Q (F0 m 18 ls []) := by
    intro n
    induction n using Nat.strongRecOn with
    | _ n ih =>
      intro x1 x2 M H locs ls hI hH hl
      exact wX3_unfinishedEnds_b18 hF hSt hret (fun x1 x2 M H locs ls h hH hl => by obtain ⟨k, hk, hI⟩ := h; exact ih k hk x1 x2 M H locs ls hI hH hl) x1 x2 M H locs ls hH hl (hs n x1 x2 M hI)
  exact key n x1 x2 M H locs ls hI hH hl
def pX3_unfinishedEnds (M : zM)  (post : Int32 → zM → Prop) : Prop :=
  pX2_spreadVectors M (M.1 1 5) (fun M11 => pX3_unfinishedEnds_L18 post (0 : Int32) (1 : Int32) M11)
set_option maxHeartbeats 4000000 in
set_option maxRecDepth 100000 in
theorem wX3_unfinishedEnds {M : zM} {post : Int32 → zM → Prop} (hF : CallFix p m c cX3_unfinishedEnds 3 s args wsX3_unfinishedEnds RX3) (hSt : zSt G s) (hret : zRi p l e ({ frames := 4, cells := 0, slots := 0, locals := 102 } : Room) s m args below meth c Q cX3_unfinishedEnds G true O post)  (H : Heap) (locs : List Loc) (ls : Array Slot) (hH : zH G true s H locs M O) (hl : lv_has ls 3 [(0, .ref (G.1 3))]) (h : pX3_unfinishedEnds M  post) : W p l e ({ frames := 4, cells := 0, slots := 0, locals := 102 } : Room) s m args below meth c H locs 0 0 Q (F0 m 0 ls []) := by
  obtain ⟨hx, hb, hml, hown, hts⟩ := id hF
  unfold pX3_unfinishedEnds at h
  refine lv_aload_n hx hb dX3_unfinishedEnds_0 rfl (lv_at hl 0 rfl) ?_
  refine zget (v := .ref (G.1 1)) hF hSt hH 3 (by decide) rfl (zE_3 _ _ _) (C := RX3) (T := TX3) (N := 4) rfl znX3_unfinishedEnds_X3 0 (by decide) (List.mem_of_getElem? (i := 1) rfl) rfl dX3_unfinishedEnds_1 ?_
  refine lv_aload_n hx hb dX3_unfinishedEnds_4 rfl (lv_at hl 0 rfl) ?_
  refine zget (v := .ref (G.1 1)) hF hSt hH 3 (by decide) rfl (zE_3 _ _ _) (C := RX3) (T := TX3) (N := 4) rfl znX3_unfinishedEnds_X3 0 (by decide) (List.mem_of_getElem? (i := 1) rfl) rfl dX3_unfinishedEnds_5 ?_
  refine zget (v := .int (M.1 1 5)) hF hSt hH 1 (by decide) rfl (zE_1 _ _ _) (C := RX2) (T := TX2) (N := 16) rfl znX3_unfinishedEnds_X2 5 (by decide) (List.mem_of_getElem? (i := 2) rfl) rfl dX3_unfinishedEnds_8 ?_
  refine zcallv hH (va_runV (As := [.int (M.1 1 5)]) (rest := []) hF (kX2_spreadVectors l G M O (M.1 1 5) _ h) (cwV 1 hts gX3_unfinishedEnds_X2_spreadVectors rfl rfl rfl ⟨rfl, zdX2_spreadVectors⟩ ⟨Nat.le_of_ble_eq_true rfl, Nat.le_of_ble_eq_true rfl⟩) (zpreV hSt hH 1 (by decide) rfl (zE_1 _ _ _) (q := (RX2, TX2, 16)) rfl [.int (M.1 1 5)]) rfl rfl hl.1 rfl (lv_room (Nat.le_of_ble_eq_true rfl)) dX3_unfinishedEnds_11 ⟨Nat.zero_le _, Nat.zero_le _⟩) (fun M11 H locs h hH => ?_)
  refine lv_iconst (v := (0 : Int32)) hx hb dX3_unfinishedEnds_14 (by decide) ?_
  refine lv_istore_n (lv' := [(1, .int (0 : Int32)), (0, .ref (G.1 3))]) hx hb dX3_unfinishedEnds_15 rfl hl (by decide) rfl (fun ls hl => ?_)
  refine lv_iconst (v := (1 : Int32)) hx hb dX3_unfinishedEnds_16 (by decide) ?_
  refine lv_istore_n (lv' := [(2, .int (1 : Int32)), (1, .int (0 : Int32)), (0, .ref (G.1 3))]) hx hb dX3_unfinishedEnds_17 rfl hl (by decide) rfl (fun ls hl => ?_)
  exact wX3_unfinishedEnds_L18 hF hSt hret (0 : Int32) (1 : Int32) M11 H locs ls hH (lv_sub hl [2, 1, 0] rfl) h
set_option maxRecDepth 100000 in
theorem kX3_unfinishedEnds (l : Launch) (G : zG) (M O : zM)  (post : Int32 → zM → Prop) (h : pX3_unfinishedEnds M  post) : Met l yX3_unfinishedEnds wsX3_unfinishedEnds ({ frames := 4, cells := 0, slots := 0, locals := 102 } : Room) (zPc G true M O [.ref (G.1 3)]) (va_Qi post (zB G true O) (zAA G)) 0 0 (zAA G) :=
  zmet_i (by decide) rfl (Nat.le_of_ble_eq_true rfl) (fun hF hSt hret H locs ls hH hl => wX3_unfinishedEnds hF hSt hret  H locs ls hH hl h)
end
theorem znX5_left_X5 : ∀ w ∈ wsX50, w ∈ wsX5_left := fun _ h => List.mem_cons_of_mem _ (List.mem_append_left _ (List.mem_append_left _ (List.mem_append_right _ h)))
theorem znX5_left_X3 : ∀ w ∈ wsX30, w ∈ wsX5_left := fun _ h => List.mem_cons_of_mem _ (List.mem_append_left _ (List.mem_append_right _ h))
theorem znX5_left_X2 : ∀ w ∈ wsX20, w ∈ wsX5_left := fun _ h => List.mem_cons_of_mem _ (List.mem_append_right _ h)
theorem zdX5_left : yX5_left.cls ≠ "java/lang/invoke/MethodHandle" ∧ yX5_left.cls ≠ "java/lang/invoke/VarHandle" ∧ (parseMethodDescriptor yX5_left.desc).map (fun d => d.parameters.length) = some 0 := by decide +kernel
-- MixingRelays left()I
section
variable {p : Program} {l : Launch} {e : Env} {s : State} {m : MethodId} {args : Array Value} {below : List Frame} {meth : Method} {c : Code} {Q : State → Prop} {G : zG} {O : zM}
def pX5_left (M : zM)  (post : Int32 → zM → Prop) : Prop :=
  pX3_unfinishedEnds M  (fun r4 M4 => post r4 M4)
set_option maxHeartbeats 4000000 in
set_option maxRecDepth 100000 in
theorem wX5_left {M : zM} {post : Int32 → zM → Prop} (hF : CallFix p m c cX5_left 1 s args wsX5_left RX5) (hSt : zSt G s) (hret : zRi p l e ({ frames := 5, cells := 0, slots := 0, locals := 124 } : Room) s m args below meth c Q cX5_left G true O post)  (H : Heap) (locs : List Loc) (ls : Array Slot) (hH : zH G true s H locs M O) (hl : lv_has ls 1 [(0, .ref (G.1 0))]) (h : pX5_left M  post) : W p l e ({ frames := 5, cells := 0, slots := 0, locals := 124 } : Room) s m args below meth c H locs 0 0 Q (F0 m 0 ls []) := by
  obtain ⟨hx, hb, hml, hown, hts⟩ := id hF
  unfold pX5_left at h
  refine lv_aload_n hx hb dX5_left_0 rfl (lv_at hl 0 rfl) ?_
  refine zget (v := .ref (G.1 3)) hF hSt hH 0 (by decide) rfl (zE_0 _ _ _) (C := RX5) (T := TX5) (N := 5) rfl znX5_left_X5 2 (by decide) (List.mem_of_getElem? (i := 1) rfl) rfl dX5_left_1 ?_
  refine zcalli hH (va_runV (As := []) (rest := []) hF (kX3_unfinishedEnds l G M O _ h) (cwV 0 hts gX5_left_X3_unfinishedEnds rfl rfl rfl ⟨rfl, zdX3_unfinishedEnds⟩ ⟨Nat.le_of_ble_eq_true rfl, Nat.le_of_ble_eq_true rfl⟩) (zpreV hSt hH 3 (by decide) rfl (zE_3 _ _ _) (q := (RX3, TX3, 4)) rfl []) rfl rfl hl.1 rfl (lv_room (Nat.le_of_ble_eq_true rfl)) dX5_left_4 ⟨Nat.zero_le _, Nat.zero_le _⟩) (fun r4 M4 H locs h hH => ?_)
  exact hret _ _ _ _ _ _ dX5_left_7 h hH
set_option maxRecDepth 100000 in
theorem kX5_left (l : Launch) (G : zG) (M O : zM)  (post : Int32 → zM → Prop) (h : pX5_left M  post) : Met l yX5_left wsX5_left ({ frames := 5, cells := 0, slots := 0, locals := 124 } : Room) (zPc G true M O [.ref (G.1 0)]) (va_Qi post (zB G true O) (zAA G)) 0 0 (zAA G) :=
  zmet_i (by decide) rfl (Nat.le_of_ble_eq_true rfl) (fun hF hSt hret H locs ls hH hl => wX5_left hF hSt hret  H locs ls hH hl h)
end
theorem znX1_drawWith_X1 : ∀ w ∈ wsX10, w ∈ wsX1_drawWith := fun _ h => List.mem_cons_of_mem _ (List.mem_append_left _ (List.mem_append_right _ h))
theorem znX1_drawWith_X2 : ∀ w ∈ wsX20, w ∈ wsX1_drawWith := fun _ h => List.mem_cons_of_mem _ (List.mem_append_right _ h)
theorem zdX1_drawWith : yX1_drawWith.cls ≠ "java/lang/invoke/MethodHandle" ∧ yX1_drawWith.cls ≠ "java/lang/invoke/VarHandle" ∧ (parseMethodDescriptor yX1_drawWith.desc).map (fun d => d.parameters.length) = some 1 := by decide +kernel
-- MixingRelays$Mixer drawWith(I)I
section
variable {p : Program} {l : Launch} {e : Env} {s : State} {m : MethodId} {args : Array Value} {below : List Frame} {meth : Method} {c : Code} {Q : State → Prop} {G : zG} {O : zM}
def pX1_drawWith_b53 (post : Int32 → zM → Prop) (ag7 : Int32 → Int32 → Int32 → zM → Prop) (ag53 : Int32 → Int32 → Int32 → Int32 → Int32 → zM → Prop) (x2 : Int32) (x3 : Int32) (x4 : Int32) (x5 : Int32) (x6 : Int32) (M : zM) : Prop :=
  (x5 ≤ x6 → ag7 x2 x3 (x4 + (1 : Int32)) M) ∧ (¬ (x5 ≤ x6) → pX5_slot x4 x6 (fun r80 => vp_in r80 900 ∧ ag53 (((1103515245 : Int32) * x2) + (12345 : Int32)) (x3 + (1 : Int32)) x4 x5 (x6 + (1 : Int32)) (zsi M 10 r80.toNatClampNeg ((((((1103515245 : Int32) * x2) + (12345 : Int32))).toUInt32 >>> (((16 : Int32)).toUInt32 &&& Int32.toUInt32 31)).toInt32 &&& (255 : Int32)))))
set_option maxHeartbeats 4000000 in
set_option maxRecDepth 100000 in
theorem wX1_drawWith_b53 {post : Int32 → zM → Prop} {ag7 : Int32 → Int32 → Int32 → zM → Prop} {ag53 : Int32 → Int32 → Int32 → Int32 → Int32 → zM → Prop} (hF : CallFix p m c cX1_drawWith 7 s args wsX1_drawWith RX1) (hSt : zSt G s) (hret : zRi p l e ({ frames := 1, cells := 0, slots := 0, locals := 21 } : Room) s m args below meth c Q cX1_drawWith G true O post) (hag7 : ∀ (x2 : Int32) (x3 : Int32) (x4 : Int32) (M : zM) (H : Heap) (locs : List Loc) (ls : Array Slot), ag7 x2 x3 x4 M → zH G true s H locs M O → lv_has ls 7 [(0, .ref (G.1 4)), (2, .int x2), (3, .int x3), (4, .int x4)] → W p l e ({ frames := 1, cells := 0, slots := 0, locals := 21 } : Room) s m args below meth c H locs 0 0 Q (F0 m 7 ls [])) (hag53 : ∀ (x2 : Int32) (x3 : Int32) (x4 : Int32) (x5 : Int32) (x6 : Int32) (M : zM) (H : Heap) (locs : List Loc) (ls : Array Slot), ag53 x2 x3 x4 x5 x6 M → zH G true s H locs M O → lv_has ls 7 [(0, .ref (G.1 4)), (2, .int x2), (3, .int x3), (4, .int x4), (5, .int x5), (6, .int x6)] → W p l e ({ frames := 1, cells := 0, slots := 0, locals := 21 } : Room) s m args below meth c H locs 0 0 Q (F0 m 53 ls [])) (x2 : Int32) (x3 : Int32) (x4 : Int32) (x5 : Int32) (x6 : Int32) (M : zM) (H : Heap) (locs : List Loc) (ls : Array Slot) (hH : zH G true s H locs M O) (hl : lv_has ls 7 [(0, .ref (G.1 4)), (2, .int x2), (3, .int x3), (4, .int x4), (5, .int x5), (6, .int x6)]) (h : pX1_drawWith_b53 post ag7 ag53 x2 x3 x4 x5 x6 M) : W p l e ({ frames := 1, cells := 0, slots := 0, locals := 21 } : Room) s m args below meth c H locs 0 0 Q (F0 m 53 ls []) := by
  obtain ⟨hx, hb, hml, hown, hts⟩ := id hF
  unfold pX1_drawWith_b53 at h
  refine lv_iload hx hb dX1_drawWith_53 (lv_at hl 5 rfl) ?_
  refine lv_iload hx hb dX1_drawWith_55 (lv_at hl 4 rfl) ?_
  refine lv_icmp_ge (tgt := 101) hx hb dX1_drawWith_57 (by decide) (fun q57 => ?_) (fun q57 => ?_)
  · have h := h.1 q57
    refine lv_iinc (v := (x4 + (1 : Int32))) (lv' := [(4, .int (x4 + (1 : Int32))), (0, .ref (G.1 4)), (2, .int x2), (3, .int x3), (5, .int x5), (6, .int x6)]) hx hb dX1_drawWith_101 hl (k := 3) rfl rfl (by decide) rfl (fun ls hl => ?_)
    refine lv_goto (tgt := 7) hx hb dX1_drawWith_104 (by decide) ?_
    exact hag7 x2 x3 (x4 + (1 : Int32)) M H locs ls h hH (lv_sub hl [1, 2, 3, 0] rfl)
  · have h := h.2 q57
    refine lv_ldc (v := (1103515245 : Int32)) hx hb hown (hts _ (List.mem_of_getElem? (i := 4) rfl)) dX1_drawWith_60 ?_
    refine lv_iload_n hx hb dX1_drawWith_62 rfl (lv_at hl 1 rfl) ?_
    refine lv_imul hx hb dX1_drawWith_63 ?_
    refine lv_sipush (v := (12345 : Int32)) hx hb dX1_drawWith_64 (by decide) ?_
    refine lv_iadd hx hb dX1_drawWith_67 ?_
    refine lv_istore_n (lv' := [(2, .int (((1103515245 : Int32) * x2) + (12345 : Int32))), (0, .ref (G.1 4)), (3, .int x3), (4, .int x4), (5, .int x5), (6, .int x6)]) hx hb dX1_drawWith_68 rfl hl (by decide) rfl (fun ls hl => ?_)
    refine lv_aload_n hx hb dX1_drawWith_69 rfl (lv_at hl 1 rfl) ?_
    refine zget (v := .ref (G.1 1)) hF hSt hH 4 (by decide) rfl (zE_4 _ _ _) (C := RX1) (T := TX1) (N := 4) rfl znX1_drawWith_X1 0 (by decide) (List.mem_of_getElem? (i := 1) rfl) rfl dX1_drawWith_70 ?_
    refine zget (v := .ref (G.1 10)) hF hSt hH 1 (by decide) rfl (zE_1 _ _ _) (C := RX2) (T := TX2) (N := 16) rfl znX1_drawWith_X2 10 (by decide) (List.mem_of_getElem? (i := 5) rfl) rfl dX1_drawWith_73 ?_
    refine lv_iload hx hb dX1_drawWith_76 (lv_at hl 3 rfl) ?_
    refine lv_iload hx hb dX1_drawWith_78 (lv_at hl 5 rfl) ?_
    refine zcalliP hH (va_runSN (As := [.int x4, .int x6]) (rest := [.ref (G.1 10)]) hF (kX5_slot l G M O x4 x6 _ h) ⟨va_cnB 2 hts gX1_drawWith_X5_slot_n47 rfl rfl rfl (hSt.2.2.1 _ zNest_X1_47) (hts _ (List.mem_of_getElem? (i := 7) rfl)) zdX5_slot ⟨Nat.le_of_ble_eq_true rfl, Nat.le_of_ble_eq_true rfl⟩, hts _ (List.mem_of_getElem? (i := 17) rfl), trivial⟩ (zpreS hSt hH [.int x4, .int x6]) rfl rfl hl.1 rfl (lv_room (Nat.le_of_ble_eq_true rfl)) dX1_drawWith_80 ⟨Nat.zero_le _, Nat.zero_le _⟩) (fun r80 H locs h hH => ?_)
    refine lv_iload_n hx hb dX1_drawWith_83 rfl (lv_at hl 0 rfl) ?_
    refine lv_bipush (v := (16 : Int32)) hx hb dX1_drawWith_84 (by decide) ?_
    refine lv_iushr hx hb dX1_drawWith_86 rfl ?_
    refine lv_sipush (v := (255 : Int32)) hx hb dX1_drawWith_87 (by decide) ?_
    refine lv_iand hx hb dX1_drawWith_90 ?_
    obtain ⟨q91, h⟩ := h
    refine zast hF hSt hH 10 (by decide) rfl (zE_10 _) (x := ((((((1103515245 : Int32) * x2) + (12345 : Int32))).toUInt32 >>> (((16 : Int32)).toUInt32 &&& Int32.toUInt32 31)).toInt32 &&& (255 : Int32))) q91 dX1_drawWith_91 (fun H locs hH => ?_)
    refine lv_iinc (v := (x3 + (1 : Int32))) (lv' := [(3, .int (x3 + (1 : Int32))), (2, .int (((1103515245 : Int32) * x2) + (12345 : Int32))), (0, .ref (G.1 4)), (4, .int x4), (5, .int x5), (6, .int x6)]) hx hb dX1_drawWith_92 hl (k := 2) rfl rfl (by decide) rfl (fun ls hl => ?_)
    refine lv_iinc (v := (x6 + (1 : Int32))) (lv' := [(6, .int (x6 + (1 : Int32))), (3, .int (x3 + (1 : Int32))), (2, .int (((1103515245 : Int32) * x2) + (12345 : Int32))), (0, .ref (G.1 4)), (4, .int x4), (5, .int x5)]) hx hb dX1_drawWith_95 hl (k := 5) rfl rfl (by decide) rfl (fun ls hl => ?_)
    refine lv_goto (tgt := 53) hx hb dX1_drawWith_98 (by decide) ?_
    exact hag53 (((1103515245 : Int32) * x2) + (12345 : Int32)) (x3 + (1 : Int32)) x4 x5 (x6 + (1 : Int32)) (zsi M 10 r80.toNatClampNeg ((((((1103515245 : Int32) * x2) + (12345 : Int32))).toUInt32 >>> (((16 : Int32)).toUInt32 &&& Int32.toUInt32 31)).toInt32 &&& (255 : Int32))) H locs ls h hH (lv_sub hl [3, 2, 1, 4, 5, 0] rfl)
def pX1_drawWith_L53 (post : Int32 → zM → Prop) (ag7 : Int32 → Int32 → Int32 → zM → Prop) (x2 : Int32) (x3 : Int32) (x4 : Int32) (x5 : Int32) (x6 : Int32) (M : zM) : Prop :=
  ∃ I : Nat → Int32 → Int32 → Int32 → Int32 → Int32 → zM → Prop, (∃ n, I n x2 x3 x4 x5 x6 M) ∧ ∀ n x2 x3 x4 x5 x6 M, I n x2 x3 x4 x5 x6 M → pX1_drawWith_b53 post ag7 (fun x2 x3 x4 x5 x6 M => ∃ k, k < n ∧ I k x2 x3 x4 x5 x6 M) x2 x3 x4 x5 x6 M
set_option maxHeartbeats 4000000 in
theorem wX1_drawWith_L53 {post : Int32 → zM → Prop} {ag7 : Int32 → Int32 → Int32 → zM → Prop} (hF : CallFix p m c cX1_drawWith 7 s args wsX1_drawWith RX1) (hSt : zSt G s) (hret : zRi p l e ({ frames := 1, cells := 0, slots := 0, locals := 21 } : Room) s m args below meth c Q cX1_drawWith G true O post) (hag7 : ∀ (x2 : Int32) (x3 : Int32) (x4 : Int32) (M : zM) (H : Heap) (locs : List Loc) (ls : Array Slot), ag7 x2 x3 x4 M → zH G true s H locs M O → lv_has ls 7 [(0, .ref (G.1 4)), (2, .int x2), (3, .int x3), (4, .int x4)] → W p l e ({ frames := 1, cells := 0, slots := 0, locals := 21 } : Room) s m args below meth c H locs 0 0 Q (F0 m 7 ls [])) (x2 : Int32) (x3 : Int32) (x4 : Int32) (x5 : Int32) (x6 : Int32) (M : zM) (H : Heap) (locs : List Loc) (ls : Array Slot) (hH : zH G true s H locs M O) (hl : lv_has ls 7 [(0, .ref (G.1 4)), (2, .int x2), (3, .int x3), (4, .int x4), (5, .int x5), (6, .int x6)]) (h : pX1_drawWith_L53 post ag7 x2 x3 x4 x5 x6 M) : W p l e ({ frames := 1, cells := 0, slots := 0, locals := 21 } : Room) s m args below meth c H locs 0 0 Q (F0 m 53 ls []) := by
  obtain ⟨I, ⟨n, hI⟩, hs⟩ := h
  have key : ∀ (n : Nat) (x2 : Int32) (x3 : Int32) (x4 : Int32) (x5 : Int32) (x6 : Int32) (M : zM) (H : Heap) (locs : List Loc) (ls : Array Slot), I n x2 x3 x4 x5 x6 M → zH G true s H locs M O → lv_has ls 7 [(0, .ref (G.1 4)), (2, .int x2), (3, .int x3), (4, .int x4), (5, .int x5), (6, .int x6)] → W p l e ({ frames := 1, cells := 0, slots := 0, locals := 21 } : Room) s m args below meth c H locs 0 0 Q (F0 m 53 ls []) := by
    intro n
    induction n using Nat.strongRecOn with
    | _ n ih =>
      intro x2 x3 x4 x5 x6 M H locs ls hI hH hl
      exact wX1_drawWith_b53 hF hSt hret hag7 (fun x2 x3 x4 x5 x6 M H locs ls h hH hl => by obtain ⟨k, hk, hI⟩ := h; exact ih k hk x2 x3 x4 x5 x6 M H locs ls hI hH hl) x2 x3 x4 x5 x6 M H locs ls hH hl (hs n x2 x3 x4 x5 x6 M hI)
  exact key n x2 x3 x4 x5 x6 M H locs ls hI hH hl
def pX1_drawWith_b48 (post : Int32 → zM → Prop) (ag7 : Int32 → Int32 → Int32 → zM → Prop) (x2 : Int32) (x3 : Int32) (x4 : Int32) (t0 : Int32) (M : zM) : Prop :=
  pX1_drawWith_L53 post ag7 x2 x3 x4 t0 (0 : Int32) M
set_option maxHeartbeats 4000000 in
set_option maxRecDepth 100000 in
theorem wX1_drawWith_b48 {post : Int32 → zM → Prop} {ag7 : Int32 → Int32 → Int32 → zM → Prop} (hF : CallFix p m c cX1_drawWith 7 s args wsX1_drawWith RX1) (hSt : zSt G s) (hret : zRi p l e ({ frames := 1, cells := 0, slots := 0, locals := 21 } : Room) s m args below meth c Q cX1_drawWith G true O post) (hag7 : ∀ (x2 : Int32) (x3 : Int32) (x4 : Int32) (M : zM) (H : Heap) (locs : List Loc) (ls : Array Slot), ag7 x2 x3 x4 M → zH G true s H locs M O → lv_has ls 7 [(0, .ref (G.1 4)), (2, .int x2), (3, .int x3), (4, .int x4)] → W p l e ({ frames := 1, cells := 0, slots := 0, locals := 21 } : Room) s m args below meth c H locs 0 0 Q (F0 m 7 ls [])) (x2 : Int32) (x3 : Int32) (x4 : Int32) (t0 : Int32) (M : zM) (H : Heap) (locs : List Loc) (ls : Array Slot) (hH : zH G true s H locs M O) (hl : lv_has ls 7 [(0, .ref (G.1 4)), (2, .int x2), (3, .int x3), (4, .int x4)]) (h : pX1_drawWith_b48 post ag7 x2 x3 x4 t0 M) : W p l e ({ frames := 1, cells := 0, slots := 0, locals := 21 } : Room) s m args below meth c H locs 0 0 Q (F0 m 48 ls [.int t0]) := by
  obtain ⟨hx, hb, hml, hown, hts⟩ := id hF
  unfold pX1_drawWith_b48 at h
  refine lv_istore (lv' := [(5, .int t0), (0, .ref (G.1 4)), (2, .int x2), (3, .int x3), (4, .int x4)]) hx hb dX1_drawWith_48 hl (by decide) rfl (fun ls hl => ?_)
  refine lv_iconst (v := (0 : Int32)) hx hb dX1_drawWith_50 (by decide) ?_
  refine lv_istore (lv' := [(6, .int (0 : Int32)), (5, .int t0), (0, .ref (G.1 4)), (2, .int x2), (3, .int x3), (4, .int x4)]) hx hb dX1_drawWith_51 hl (by decide) rfl (fun ls hl => ?_)
  exact wX1_drawWith_L53 hF hSt hret hag7 x2 x3 x4 t0 (0 : Int32) M H locs ls hH (lv_sub hl [2, 3, 4, 5, 1, 0] rfl) h
def pX1_drawWith_b7 (post : Int32 → zM → Prop) (ag7 : Int32 → Int32 → Int32 → zM → Prop) (x2 : Int32) (x3 : Int32) (x4 : Int32) (M : zM) : Prop :=
  ((M.1 1 1) ≤ x4 → post x3 M) ∧ (¬ ((M.1 1 1) ≤ x4) → pX5_flag (M.1 1 4) x4 (fun r28 => (¬ (r28 = (1 : Int32)) → pX2_insOf M x4 (fun r45 => pX1_drawWith_b48 post ag7 x2 x3 x4 r45 M)) ∧ (r28 = (1 : Int32) → pX1_drawWith_b48 post ag7 x2 x3 x4 (0 : Int32) M)))
set_option maxHeartbeats 4000000 in
set_option maxRecDepth 100000 in
theorem wX1_drawWith_b7 {post : Int32 → zM → Prop} {ag7 : Int32 → Int32 → Int32 → zM → Prop} (hF : CallFix p m c cX1_drawWith 7 s args wsX1_drawWith RX1) (hSt : zSt G s) (hret : zRi p l e ({ frames := 1, cells := 0, slots := 0, locals := 21 } : Room) s m args below meth c Q cX1_drawWith G true O post) (hag7 : ∀ (x2 : Int32) (x3 : Int32) (x4 : Int32) (M : zM) (H : Heap) (locs : List Loc) (ls : Array Slot), ag7 x2 x3 x4 M → zH G true s H locs M O → lv_has ls 7 [(0, .ref (G.1 4)), (2, .int x2), (3, .int x3), (4, .int x4)] → W p l e ({ frames := 1, cells := 0, slots := 0, locals := 21 } : Room) s m args below meth c H locs 0 0 Q (F0 m 7 ls [])) (x2 : Int32) (x3 : Int32) (x4 : Int32) (M : zM) (H : Heap) (locs : List Loc) (ls : Array Slot) (hH : zH G true s H locs M O) (hl : lv_has ls 7 [(0, .ref (G.1 4)), (2, .int x2), (3, .int x3), (4, .int x4)]) (h : pX1_drawWith_b7 post ag7 x2 x3 x4 M) : W p l e ({ frames := 1, cells := 0, slots := 0, locals := 21 } : Room) s m args below meth c H locs 0 0 Q (F0 m 7 ls []) := by
  obtain ⟨hx, hb, hml, hown, hts⟩ := id hF
  unfold pX1_drawWith_b7 at h
  refine lv_iload hx hb dX1_drawWith_7 (lv_at hl 3 rfl) ?_
  refine lv_aload_n hx hb dX1_drawWith_9 rfl (lv_at hl 0 rfl) ?_
  refine zget (v := .ref (G.1 1)) hF hSt hH 4 (by decide) rfl (zE_4 _ _ _) (C := RX1) (T := TX1) (N := 4) rfl znX1_drawWith_X1 0 (by decide) (List.mem_of_getElem? (i := 1) rfl) rfl dX1_drawWith_10 ?_
  refine zget (v := .int (M.1 1 1)) hF hSt hH 1 (by decide) rfl (zE_1 _ _ _) (C := RX2) (T := TX2) (N := 16) rfl znX1_drawWith_X2 1 (by decide) (List.mem_of_getElem? (i := 2) rfl) rfl dX1_drawWith_13 ?_
  refine lv_icmp_ge (tgt := 107) hx hb dX1_drawWith_16 (by decide) (fun q16 => ?_) (fun q16 => ?_)
  · have h := h.1 q16
    refine lv_iload_n hx hb dX1_drawWith_107 rfl (lv_at hl 2 rfl) ?_
    exact hret _ _ _ _ _ _ dX1_drawWith_108 h hH
  · have h := h.2 q16
    refine lv_aload_n hx hb dX1_drawWith_19 rfl (lv_at hl 0 rfl) ?_
    refine zget (v := .ref (G.1 1)) hF hSt hH 4 (by decide) rfl (zE_4 _ _ _) (C := RX1) (T := TX1) (N := 4) rfl znX1_drawWith_X1 0 (by decide) (List.mem_of_getElem? (i := 1) rfl) rfl dX1_drawWith_20 ?_
    refine zget (v := .int (M.1 1 4)) hF hSt hH 1 (by decide) rfl (zE_1 _ _ _) (C := RX2) (T := TX2) (N := 16) rfl znX1_drawWith_X2 4 (by decide) (List.mem_of_getElem? (i := 3) rfl) rfl dX1_drawWith_23 ?_
    refine lv_iload hx hb dX1_drawWith_26 (lv_at hl 3 rfl) ?_
    refine zcalliP hH (va_runSN (As := [.int (M.1 1 4), .int x4]) (rest := []) hF (kX5_flag l G M O (M.1 1 4) x4 _ h) ⟨va_cnB 2 hts gX1_drawWith_X5_flag_n35 rfl rfl rfl (hSt.2.2.1 _ zNest_X1_35) (hts _ (List.mem_of_getElem? (i := 7) rfl)) zdX5_flag ⟨Nat.le_of_ble_eq_true rfl, Nat.le_of_ble_eq_true rfl⟩, hts _ (List.mem_of_getElem? (i := 6) rfl), trivial⟩ (zpreS hSt hH [.int (M.1 1 4), .int x4]) rfl rfl hl.1 rfl (lv_room (Nat.le_of_ble_eq_true rfl)) dX1_drawWith_28 ⟨Nat.zero_le _, Nat.zero_le _⟩) (fun r28 H locs h hH => ?_)
    refine lv_iconst (v := (1 : Int32)) hx hb dX1_drawWith_31 (by decide) ?_
    refine lv_icmp_ne (tgt := 39) hx hb dX1_drawWith_32 (by decide) (fun q32 => ?_) (fun q32 => ?_)
    · have h := h.1 q32
      refine lv_aload_n hx hb dX1_drawWith_39 rfl (lv_at hl 0 rfl) ?_
      refine zget (v := .ref (G.1 1)) hF hSt hH 4 (by decide) rfl (zE_4 _ _ _) (C := RX1) (T := TX1) (N := 4) rfl znX1_drawWith_X1 0 (by decide) (List.mem_of_getElem? (i := 1) rfl) rfl dX1_drawWith_40 ?_
      refine lv_iload hx hb dX1_drawWith_43 (lv_at hl 3 rfl) ?_
      refine zcalliP hH (va_runV (As := [.int x4]) (rest := []) hF (kX2_insOf l G M O x4 _ h) (cwV 1 hts gX1_drawWith_X2_insOf rfl rfl rfl ⟨rfl, zdX2_insOf⟩ ⟨Nat.le_of_ble_eq_true rfl, Nat.le_of_ble_eq_true rfl⟩) (zpreV hSt hH 1 (by decide) rfl (zE_1 _ _ _) (q := (RX2, TX2, 16)) rfl [.int x4]) rfl rfl hl.1 rfl (lv_room (Nat.le_of_ble_eq_true rfl)) dX1_drawWith_45 ⟨Nat.zero_le _, Nat.zero_le _⟩) (fun r45 H locs h hH => ?_)
      exact wX1_drawWith_b48 hF hSt hret hag7 x2 x3 x4 r45 M H locs ls hH (lv_sub hl [0, 1, 2, 3] rfl) h
    · have h := h.2 q32
      refine lv_iconst (v := (0 : Int32)) hx hb dX1_drawWith_35 (by decide) ?_
      refine lv_goto (tgt := 48) hx hb dX1_drawWith_36 (by decide) ?_
      exact wX1_drawWith_b48 hF hSt hret hag7 x2 x3 x4 (0 : Int32) M H locs ls hH (lv_sub hl [0, 1, 2, 3] rfl) h
def pX1_drawWith_L7 (post : Int32 → zM → Prop) (x2 : Int32) (x3 : Int32) (x4 : Int32) (M : zM) : Prop :=
  ∃ I : Nat → Int32 → Int32 → Int32 → zM → Prop, (∃ n, I n x2 x3 x4 M) ∧ ∀ n x2 x3 x4 M, I n x2 x3 x4 M → pX1_drawWith_b7 post (fun x2 x3 x4 M => ∃ k, k < n ∧ I k x2 x3 x4 M) x2 x3 x4 M
set_option maxHeartbeats 4000000 in
theorem wX1_drawWith_L7 {post : Int32 → zM → Prop}  (hF : CallFix p m c cX1_drawWith 7 s args wsX1_drawWith RX1) (hSt : zSt G s) (hret : zRi p l e ({ frames := 1, cells := 0, slots := 0, locals := 21 } : Room) s m args below meth c Q cX1_drawWith G true O post) (x2 : Int32) (x3 : Int32) (x4 : Int32) (M : zM) (H : Heap) (locs : List Loc) (ls : Array Slot) (hH : zH G true s H locs M O) (hl : lv_has ls 7 [(0, .ref (G.1 4)), (2, .int x2), (3, .int x3), (4, .int x4)]) (h : pX1_drawWith_L7 post x2 x3 x4 M) : W p l e ({ frames := 1, cells := 0, slots := 0, locals := 21 } : Room) s m args below meth c H locs 0 0 Q (F0 m 7 ls []) := by
  obtain ⟨I, ⟨n, hI⟩, hs⟩ := h
  have key : ∀ (n : Nat) (x2 : Int32) (x3 : Int32) (x4 : Int32) (M : zM) (H : Heap) (locs : List Loc) (ls : Array Slot), I n x2 x3 x4 M → zH G true s H locs M O → lv_has ls 7 [(0, .ref (G.1 4)), (2, .int x2), (3, .int x3), (4, .int x4)] → W p l e ({ frames := 1, cells := 0, slots := 0, locals := 21 } : Room) s m args below meth c H locs 0 0 Q (F0 m 7 ls []) := by
    intro n
    induction n using Nat.strongRecOn with
    | _ n ih =>
      intro x2 x3 x4 M H locs ls hI hH hl
      exact wX1_drawWith_b7 hF hSt hret (fun x2 x3 x4 M H locs ls h hH hl => by obtain ⟨k, hk, hI⟩ := h; exact ih k hk x2 x3 x4 M H locs ls hI hH hl) x2 x3 x4 M H locs ls hH hl (hs n x2 x3 x4 M hI)
  exact key n x2 x3 x4 M H locs ls hI hH hl
def pX1_drawWith (M : zM) (x1 : Int32) (post : Int32 → zM → Prop) : Prop :=
  pX1_drawWith_L7 post x1 (0 : Int32) (0 : Int32) M
set_option maxHeartbeats 4000000 in
set_option maxRecDepth 100000 in
theorem wX1_drawWith {M : zM} {post : Int32 → zM → Prop} (hF : CallFix p m c cX1_drawWith 7 s args wsX1_drawWith RX1) (hSt : zSt G s) (hret : zRi p l e ({ frames := 1, cells := 0, slots := 0, locals := 21 } : Room) s m args below meth c Q cX1_drawWith G true O post) (x1 : Int32) (H : Heap) (locs : List Loc) (ls : Array Slot) (hH : zH G true s H locs M O) (hl : lv_has ls 7 [(0, .ref (G.1 4)), (1, .int x1)]) (h : pX1_drawWith M x1 post) : W p l e ({ frames := 1, cells := 0, slots := 0, locals := 21 } : Room) s m args below meth c H locs 0 0 Q (F0 m 0 ls []) := by
  obtain ⟨hx, hb, hml, hown, hts⟩ := id hF
  unfold pX1_drawWith at h
  refine lv_iload_n hx hb dX1_drawWith_0 rfl (lv_at hl 1 rfl) ?_
  refine lv_istore_n (lv' := [(2, .int x1), (0, .ref (G.1 4)), (1, .int x1)]) hx hb dX1_drawWith_1 rfl hl (by decide) rfl (fun ls hl => ?_)
  refine lv_iconst (v := (0 : Int32)) hx hb dX1_drawWith_2 (by decide) ?_
  refine lv_istore_n (lv' := [(3, .int (0 : Int32)), (2, .int x1), (0, .ref (G.1 4)), (1, .int x1)]) hx hb dX1_drawWith_3 rfl hl (by decide) rfl (fun ls hl => ?_)
  refine lv_iconst (v := (0 : Int32)) hx hb dX1_drawWith_4 (by decide) ?_
  refine lv_istore (lv' := [(4, .int (0 : Int32)), (3, .int (0 : Int32)), (2, .int x1), (0, .ref (G.1 4)), (1, .int x1)]) hx hb dX1_drawWith_5 hl (by decide) rfl (fun ls hl => ?_)
  exact wX1_drawWith_L7 hF hSt hret x1 (0 : Int32) (0 : Int32) M H locs ls hH (lv_sub hl [3, 2, 1, 0] rfl) h
set_option maxRecDepth 100000 in
theorem kX1_drawWith (l : Launch) (G : zG) (M O : zM) (x1 : Int32) (post : Int32 → zM → Prop) (h : pX1_drawWith M x1 post) : Met l yX1_drawWith wsX1_drawWith ({ frames := 1, cells := 0, slots := 0, locals := 21 } : Room) (zPc G true M O [.ref (G.1 4), .int x1]) (va_Qi post (zB G true O) (zAA G)) 0 0 (zAA G) :=
  zmet_i (by decide) rfl (Nat.le_of_ble_eq_true rfl) (fun hF hSt hret H locs ls hH hl => wX1_drawWith hF hSt hret x1 H locs ls hH hl h)
end
theorem znX5_draw_X5 : ∀ w ∈ wsX50, w ∈ wsX5_draw := fun _ h => List.mem_cons_of_mem _ (List.mem_append_left _ (List.mem_append_left _ (List.mem_append_right _ h)))
theorem znX5_draw_X1 : ∀ w ∈ wsX10, w ∈ wsX5_draw := fun _ h => List.mem_cons_of_mem _ (List.mem_append_left _ (List.mem_append_right _ h))
theorem znX5_draw_X2 : ∀ w ∈ wsX20, w ∈ wsX5_draw := fun _ h => List.mem_cons_of_mem _ (List.mem_append_right _ h)
theorem zdX5_draw : yX5_draw.cls ≠ "java/lang/invoke/MethodHandle" ∧ yX5_draw.cls ≠ "java/lang/invoke/VarHandle" ∧ (parseMethodDescriptor yX5_draw.desc).map (fun d => d.parameters.length) = some 1 := by decide +kernel
-- MixingRelays draw(I)I
section
variable {p : Program} {l : Launch} {e : Env} {s : State} {m : MethodId} {args : Array Value} {below : List Frame} {meth : Method} {c : Code} {Q : State → Prop} {G : zG} {O : zM}
def pX5_draw (M : zM) (x1 : Int32) (post : Int32 → zM → Prop) : Prop :=
  pX1_drawWith M x1 (fun r5 M5 => post r5 M5)
set_option maxHeartbeats 4000000 in
set_option maxRecDepth 100000 in
theorem wX5_draw {M : zM} {post : Int32 → zM → Prop} (hF : CallFix p m c cX5_draw 2 s args wsX5_draw RX5) (hSt : zSt G s) (hret : zRi p l e ({ frames := 2, cells := 0, slots := 0, locals := 47 } : Room) s m args below meth c Q cX5_draw G true O post) (x1 : Int32) (H : Heap) (locs : List Loc) (ls : Array Slot) (hH : zH G true s H locs M O) (hl : lv_has ls 2 [(0, .ref (G.1 0)), (1, .int x1)]) (h : pX5_draw M x1 post) : W p l e ({ frames := 2, cells := 0, slots := 0, locals := 47 } : Room) s m args below meth c H locs 0 0 Q (F0 m 0 ls []) := by
  obtain ⟨hx, hb, hml, hown, hts⟩ := id hF
  unfold pX5_draw at h
  refine lv_aload_n hx hb dX5_draw_0 rfl (lv_at hl 0 rfl) ?_
  refine zget (v := .ref (G.1 4)) hF hSt hH 0 (by decide) rfl (zE_0 _ _ _) (C := RX5) (T := TX5) (N := 5) rfl znX5_draw_X5 3 (by decide) (List.mem_of_getElem? (i := 1) rfl) rfl dX5_draw_1 ?_
  refine lv_iload_n hx hb dX5_draw_4 rfl (lv_at hl 1 rfl) ?_
  refine zcalli hH (va_runV (As := [.int x1]) (rest := []) hF (kX1_drawWith l G M O x1 _ h) (cwV 1 hts gX5_draw_X1_drawWith rfl rfl rfl ⟨rfl, zdX1_drawWith⟩ ⟨Nat.le_of_ble_eq_true rfl, Nat.le_of_ble_eq_true rfl⟩) (zpreV hSt hH 4 (by decide) rfl (zE_4 _ _ _) (q := (RX1, TX1, 4)) rfl [.int x1]) rfl rfl hl.1 rfl (lv_room (Nat.le_of_ble_eq_true rfl)) dX5_draw_5 ⟨Nat.zero_le _, Nat.zero_le _⟩) (fun r5 M5 H locs h hH => ?_)
  exact hret _ _ _ _ _ _ dX5_draw_8 h hH
set_option maxRecDepth 100000 in
theorem kX5_draw (l : Launch) (G : zG) (M O : zM) (x1 : Int32) (post : Int32 → zM → Prop) (h : pX5_draw M x1 post) : Met l yX5_draw wsX5_draw ({ frames := 2, cells := 0, slots := 0, locals := 47 } : Room) (zPc G true M O [.ref (G.1 0), .int x1]) (va_Qi post (zB G true O) (zAA G)) 0 0 (zAA G) :=
  zmet_i (by decide) rfl (Nat.le_of_ble_eq_true rfl) (fun hF hSt hret H locs ls hH hl => wX5_draw hF hSt hret x1 H locs ls hH hl h)
end
theorem znX1_firstSeed_X1 : ∀ w ∈ wsX10, w ∈ wsX1_firstSeed := fun _ h => List.mem_cons_of_mem _ (List.mem_append_left _ (List.mem_append_left _ (List.mem_append_right _ h)))
theorem znX1_firstSeed_X2 : ∀ w ∈ wsX20, w ∈ wsX1_firstSeed := fun _ h => List.mem_cons_of_mem _ (List.mem_append_left _ (List.mem_append_right _ h))
theorem znX1_firstSeed_X3 : ∀ w ∈ wsX30, w ∈ wsX1_firstSeed := fun _ h => List.mem_cons_of_mem _ (List.mem_append_right _ h)
theorem zdX1_firstSeed : yX1_firstSeed.cls ≠ "java/lang/invoke/MethodHandle" ∧ yX1_firstSeed.cls ≠ "java/lang/invoke/VarHandle" ∧ (parseMethodDescriptor yX1_firstSeed.desc).map (fun d => d.parameters.length) = some 0 := by decide +kernel
-- MixingRelays$Mixer firstSeed()I
section
variable {p : Program} {l : Launch} {e : Env} {s : State} {m : MethodId} {args : Array Value} {below : List Frame} {meth : Method} {c : Code} {Q : State → Prop} {G : zG} {O : zM}
def pX1_firstSeed_b23 (post : Int32 → zM → Prop) (ag23 : Int32 → zM → Prop) (x1 : Int32) (M : zM) : Prop :=
  ((40 : Int32) < x1 → ¬ ((0 : Int32) < 0) ∧ ¬ ((0 : Int32) < 0) ∧ ¬ ((900 : Int32) < 0) ∧ ((0 : Int32)).toNatClampNeg + ((900 : Int32)).toNatClampNeg ≤ 900 ∧ ((0 : Int32)).toNatClampNeg + ((900 : Int32)).toNatClampNeg ≤ 900 ∧ post (-1 : Int32) (zri M 10 (va_cpy (M.1 19) (M.1 10) ((0 : Int32)).toNatClampNeg ((0 : Int32)).toNatClampNeg ((900 : Int32)).toNatClampNeg))) ∧ (¬ ((40 : Int32) < x1) → pX1_drawWith M x1 (fun r31 M31 => pX3_unfinishedEnds M31  (fun r39 M39 => (¬ (r39 = 0) → ag23 (x1 + (1 : Int32)) M39) ∧ (r39 = 0 → post x1 M39))))
set_option maxHeartbeats 4000000 in
set_option maxRecDepth 100000 in
theorem wX1_firstSeed_b23 {post : Int32 → zM → Prop} {ag23 : Int32 → zM → Prop} (hF : CallFix p m c cX1_firstSeed 2 s args wsX1_firstSeed RX1) (hSt : zSt G s) (hret : zRi p l e ({ frames := 5, cells := 0, slots := 0, locals := 124 } : Room) s m args below meth c Q cX1_firstSeed G true O post) (hag23 : ∀ (x1 : Int32) (M : zM) (H : Heap) (locs : List Loc) (ls : Array Slot), ag23 x1 M → zH G true s H locs M O → lv_has ls 2 [(0, .ref (G.1 4)), (1, .int x1)] → W p l e ({ frames := 5, cells := 0, slots := 0, locals := 124 } : Room) s m args below meth c H locs 0 0 Q (F0 m 23 ls [])) (x1 : Int32) (M : zM) (H : Heap) (locs : List Loc) (ls : Array Slot) (hH : zH G true s H locs M O) (hl : lv_has ls 2 [(0, .ref (G.1 4)), (1, .int x1)]) (h : pX1_firstSeed_b23 post ag23 x1 M) : W p l e ({ frames := 5, cells := 0, slots := 0, locals := 124 } : Room) s m args below meth c H locs 0 0 Q (F0 m 23 ls []) := by
  obtain ⟨hx, hb, hml, hown, hts⟩ := id hF
  unfold pX1_firstSeed_b23 at h
  refine lv_iload_n hx hb dX1_firstSeed_23 rfl (lv_at hl 1 rfl) ?_
  refine lv_bipush (v := (40 : Int32)) hx hb dX1_firstSeed_24 (by decide) ?_
  refine lv_icmp_gt (tgt := 53) hx hb dX1_firstSeed_26 (by decide) (fun q26 => ?_) (fun q26 => ?_)
  · have h := h.1 q26
    refine lv_aload_n hx hb dX1_firstSeed_53 rfl (lv_at hl 0 rfl) ?_
    refine zget (v := .ref (G.1 19)) hF hSt hH 4 (by decide) rfl (zE_4 _ _ _) (C := RX1) (T := TX1) (N := 4) rfl znX1_firstSeed_X1 2 (by decide) (List.mem_of_getElem? (i := 3) rfl) rfl dX1_firstSeed_54 ?_
    refine lv_iconst (v := (0 : Int32)) hx hb dX1_firstSeed_57 (by decide) ?_
    refine lv_aload_n hx hb dX1_firstSeed_58 rfl (lv_at hl 0 rfl) ?_
    refine zget (v := .ref (G.1 1)) hF hSt hH 4 (by decide) rfl (zE_4 _ _ _) (C := RX1) (T := TX1) (N := 4) rfl znX1_firstSeed_X1 0 (by decide) (List.mem_of_getElem? (i := 1) rfl) rfl dX1_firstSeed_59 ?_
    refine zget (v := .ref (G.1 10)) hF hSt hH 1 (by decide) rfl (zE_1 _ _ _) (C := RX2) (T := TX2) (N := 16) rfl znX1_firstSeed_X2 10 (by decide) (List.mem_of_getElem? (i := 2) rfl) rfl dX1_firstSeed_62 ?_
    refine lv_iconst (v := (0 : Int32)) hx hb dX1_firstSeed_65 (by decide) ?_
    refine lv_aload_n hx hb dX1_firstSeed_66 rfl (lv_at hl 0 rfl) ?_
    refine zget (v := .ref (G.1 19)) hF hSt hH 4 (by decide) rfl (zE_4 _ _ _) (C := RX1) (T := TX1) (N := 4) rfl znX1_firstSeed_X1 2 (by decide) (List.mem_of_getElem? (i := 3) rfl) rfl dX1_firstSeed_67 ?_
    refine zalenI hF hSt hH 19 (by decide) rfl (zE_19 _ _ _) (v := (900 : Int32)) (by decide) dX1_firstSeed_70 ?_
    obtain ⟨qa71, qb71, qc71, qd71, qe71, h⟩ := h
    refine zcopy hF hSt hH hl.1 (List.mem_of_getElem? (i := 4) rfl) (List.mem_of_getElem? (i := 5) rfl) (List.mem_of_getElem? (i := 6) rfl) (List.mem_of_getElem? (i := 7) rfl) 19 10 (by decide) rfl (by decide) rfl (zE_19 _) (zE_10 _) qa71 qb71 qc71 qd71 qe71 (by decide) (by decide) dX1_firstSeed_71 (fun H locs hH => ?_)
    refine lv_iconst (v := (-1 : Int32)) hx hb dX1_firstSeed_74 (by decide) ?_
    exact hret _ _ _ _ _ _ dX1_firstSeed_75 h hH
  · have h := h.2 q26
    refine lv_aload_n hx hb dX1_firstSeed_29 rfl (lv_at hl 0 rfl) ?_
    refine lv_iload_n hx hb dX1_firstSeed_30 rfl (lv_at hl 1 rfl) ?_
    refine zcalli hH (va_runV (As := [.int x1]) (rest := []) hF (kX1_drawWith l G M O x1 _ h) (cwV 1 hts gX1_firstSeed_X1_drawWith rfl rfl rfl ⟨rfl, zdX1_drawWith⟩ ⟨Nat.le_of_ble_eq_true rfl, Nat.le_of_ble_eq_true rfl⟩) (zpreV hSt hH 4 (by decide) rfl (zE_4 _ _ _) (q := (RX1, TX1, 4)) rfl [.int x1]) rfl rfl hl.1 rfl (lv_room (Nat.le_of_ble_eq_true rfl)) dX1_firstSeed_31 ⟨Nat.zero_le _, Nat.zero_le _⟩) (fun r31 M31 H locs h hH => ?_)
    refine lv_pop hx hb dX1_firstSeed_34 rfl ?_
    refine lv_aload_n hx hb dX1_firstSeed_35 rfl (lv_at hl 0 rfl) ?_
    refine zget (v := .ref (G.1 3)) hF hSt hH 4 (by decide) rfl (zE_4 _ _ _) (C := RX1) (T := TX1) (N := 4) rfl znX1_firstSeed_X1 1 (by decide) (List.mem_of_getElem? (i := 8) rfl) rfl dX1_firstSeed_36 ?_
    refine zcalli hH (va_runV (As := []) (rest := []) hF (kX3_unfinishedEnds l G M31 O _ h) (cwV 0 hts gX1_firstSeed_X3_unfinishedEnds rfl rfl rfl ⟨rfl, zdX3_unfinishedEnds⟩ ⟨Nat.le_of_ble_eq_true rfl, Nat.le_of_ble_eq_true rfl⟩) (zpreV hSt hH 3 (by decide) rfl (zE_3 _ _ _) (q := (RX3, TX3, 4)) rfl []) rfl rfl hl.1 rfl (lv_room (Nat.le_of_ble_eq_true rfl)) dX1_firstSeed_39 ⟨Nat.zero_le _, Nat.zero_le _⟩) (fun r39 M39 H locs h hH => ?_)
    refine lv_if_ne (tgt := 47) hx hb dX1_firstSeed_42 (by decide) (fun q42 => ?_) (fun q42 => ?_)
    · have h := h.1 q42
      refine lv_iinc (v := (x1 + (1 : Int32))) (lv' := [(1, .int (x1 + (1 : Int32))), (0, .ref (G.1 4))]) hx hb dX1_firstSeed_47 hl (k := 1) rfl rfl (by decide) rfl (fun ls hl => ?_)
      refine lv_goto (tgt := 23) hx hb dX1_firstSeed_50 (by decide) ?_
      exact hag23 (x1 + (1 : Int32)) M39 H locs ls h hH (lv_sub hl [1, 0] rfl)
    · have h := h.2 q42
      refine lv_iload_n hx hb dX1_firstSeed_45 rfl (lv_at hl 1 rfl) ?_
      exact hret _ _ _ _ _ _ dX1_firstSeed_46 h hH
def pX1_firstSeed_L23 (post : Int32 → zM → Prop) (x1 : Int32) (M : zM) : Prop :=
  ∃ I : Nat → Int32 → zM → Prop, (∃ n, I n x1 M) ∧ ∀ n x1 M, I n x1 M → pX1_firstSeed_b23 post (fun x1 M => ∃ k, k < n ∧ I k x1 M) x1 M
set_option maxHeartbeats 4000000 in
theorem wX1_firstSeed_L23 {post : Int32 → zM → Prop}  (hF : CallFix p m c cX1_firstSeed 2 s args wsX1_firstSeed RX1) (hSt : zSt G s) (hret : zRi p l e ({ frames := 5, cells := 0, slots := 0, locals := 124 } : Room) s m args below meth c Q cX1_firstSeed G true O post) (x1 : Int32) (M : zM) (H : Heap) (locs : List Loc) (ls : Array Slot) (hH : zH G true s H locs M O) (hl : lv_has ls 2 [(0, .ref (G.1 4)), (1, .int x1)]) (h : pX1_firstSeed_L23 post x1 M) : W p l e ({ frames := 5, cells := 0, slots := 0, locals := 124 } : Room) s m args below meth c H locs 0 0 Q (F0 m 23 ls []) := by
  obtain ⟨I, ⟨n, hI⟩, hs⟩ := h
  have key : ∀ (n : Nat) (x1 : Int32) (M : zM) (H : Heap) (locs : List Loc) (ls : Array Slot), I n x1 M → zH G true s H locs M O → lv_has ls 2 [(0, .ref (G.1 4)), (1, .int x1)] → W p l e ({ frames := 5, cells := 0, slots := 0, locals := 124 } : Room) s m args below meth c H locs 0 0 Q (F0 m 23 ls []) := by
    intro n
    induction n using Nat.strongRecOn with
    | _ n ih =>
      intro x1 M H locs ls hI hH hl
      exact wX1_firstSeed_b23 hF hSt hret (fun x1 M H locs ls h hH hl => by obtain ⟨k, hk, hI⟩ := h; exact ih k hk x1 M H locs ls hI hH hl) x1 M H locs ls hH hl (hs n x1 M hI)
  exact key n x1 M H locs ls hI hH hl
def pX1_firstSeed (M : zM)  (post : Int32 → zM → Prop) : Prop :=
  ¬ ((0 : Int32) < 0) ∧ ¬ ((0 : Int32) < 0) ∧ ¬ ((900 : Int32) < 0) ∧ ((0 : Int32)).toNatClampNeg + ((900 : Int32)).toNatClampNeg ≤ 900 ∧ ((0 : Int32)).toNatClampNeg + ((900 : Int32)).toNatClampNeg ≤ 900 ∧ pX1_firstSeed_L23 post (1 : Int32) (zri M 19 (va_cpy (M.1 10) (M.1 19) ((0 : Int32)).toNatClampNeg ((0 : Int32)).toNatClampNeg ((900 : Int32)).toNatClampNeg))
set_option maxHeartbeats 4000000 in
set_option maxRecDepth 100000 in
theorem wX1_firstSeed {M : zM} {post : Int32 → zM → Prop} (hF : CallFix p m c cX1_firstSeed 2 s args wsX1_firstSeed RX1) (hSt : zSt G s) (hret : zRi p l e ({ frames := 5, cells := 0, slots := 0, locals := 124 } : Room) s m args below meth c Q cX1_firstSeed G true O post)  (H : Heap) (locs : List Loc) (ls : Array Slot) (hH : zH G true s H locs M O) (hl : lv_has ls 2 [(0, .ref (G.1 4))]) (h : pX1_firstSeed M  post) : W p l e ({ frames := 5, cells := 0, slots := 0, locals := 124 } : Room) s m args below meth c H locs 0 0 Q (F0 m 0 ls []) := by
  obtain ⟨hx, hb, hml, hown, hts⟩ := id hF
  unfold pX1_firstSeed at h
  refine lv_aload_n hx hb dX1_firstSeed_0 rfl (lv_at hl 0 rfl) ?_
  refine zget (v := .ref (G.1 1)) hF hSt hH 4 (by decide) rfl (zE_4 _ _ _) (C := RX1) (T := TX1) (N := 4) rfl znX1_firstSeed_X1 0 (by decide) (List.mem_of_getElem? (i := 1) rfl) rfl dX1_firstSeed_1 ?_
  refine zget (v := .ref (G.1 10)) hF hSt hH 1 (by decide) rfl (zE_1 _ _ _) (C := RX2) (T := TX2) (N := 16) rfl znX1_firstSeed_X2 10 (by decide) (List.mem_of_getElem? (i := 2) rfl) rfl dX1_firstSeed_4 ?_
  refine lv_iconst (v := (0 : Int32)) hx hb dX1_firstSeed_7 (by decide) ?_
  refine lv_aload_n hx hb dX1_firstSeed_8 rfl (lv_at hl 0 rfl) ?_
  refine zget (v := .ref (G.1 19)) hF hSt hH 4 (by decide) rfl (zE_4 _ _ _) (C := RX1) (T := TX1) (N := 4) rfl znX1_firstSeed_X1 2 (by decide) (List.mem_of_getElem? (i := 3) rfl) rfl dX1_firstSeed_9 ?_
  refine lv_iconst (v := (0 : Int32)) hx hb dX1_firstSeed_12 (by decide) ?_
  refine lv_aload_n hx hb dX1_firstSeed_13 rfl (lv_at hl 0 rfl) ?_
  refine zget (v := .ref (G.1 19)) hF hSt hH 4 (by decide) rfl (zE_4 _ _ _) (C := RX1) (T := TX1) (N := 4) rfl znX1_firstSeed_X1 2 (by decide) (List.mem_of_getElem? (i := 3) rfl) rfl dX1_firstSeed_14 ?_
  refine zalenI hF hSt hH 19 (by decide) rfl (zE_19 _ _ _) (v := (900 : Int32)) (by decide) dX1_firstSeed_17 ?_
  obtain ⟨qa18, qb18, qc18, qd18, qe18, h⟩ := h
  refine zcopy hF hSt hH hl.1 (List.mem_of_getElem? (i := 4) rfl) (List.mem_of_getElem? (i := 5) rfl) (List.mem_of_getElem? (i := 6) rfl) (List.mem_of_getElem? (i := 7) rfl) 10 19 (by decide) rfl (by decide) rfl (zE_10 _) (zE_19 _) qa18 qb18 qc18 qd18 qe18 (by decide) (by decide) dX1_firstSeed_18 (fun H locs hH => ?_)
  refine lv_iconst (v := (1 : Int32)) hx hb dX1_firstSeed_21 (by decide) ?_
  refine lv_istore_n (lv' := [(1, .int (1 : Int32)), (0, .ref (G.1 4))]) hx hb dX1_firstSeed_22 rfl hl (by decide) rfl (fun ls hl => ?_)
  exact wX1_firstSeed_L23 hF hSt hret (1 : Int32) (zri M 19 (va_cpy (M.1 10) (M.1 19) ((0 : Int32)).toNatClampNeg ((0 : Int32)).toNatClampNeg ((900 : Int32)).toNatClampNeg)) H locs ls hH (lv_sub hl [1, 0] rfl) h
set_option maxRecDepth 100000 in
theorem kX1_firstSeed (l : Launch) (G : zG) (M O : zM)  (post : Int32 → zM → Prop) (h : pX1_firstSeed M  post) : Met l yX1_firstSeed wsX1_firstSeed ({ frames := 5, cells := 0, slots := 0, locals := 124 } : Room) (zPc G true M O [.ref (G.1 4)]) (va_Qi post (zB G true O) (zAA G)) 0 0 (zAA G) :=
  zmet_i (by decide) rfl (Nat.le_of_ble_eq_true rfl) (fun hF hSt hret H locs ls hH hl => wX1_firstSeed hF hSt hret  H locs ls hH hl h)
end
theorem znX5_find_X5 : ∀ w ∈ wsX50, w ∈ wsX5_find := fun _ h => List.mem_cons_of_mem _ (List.mem_append_left _ (List.mem_append_left _ (List.mem_append_left _ (List.mem_append_right _ h))))
theorem znX5_find_X2 : ∀ w ∈ wsX20, w ∈ wsX5_find := fun _ h => List.mem_cons_of_mem _ (List.mem_append_left _ (List.mem_append_left _ (List.mem_append_right _ h)))
theorem znX5_find_X1 : ∀ w ∈ wsX10, w ∈ wsX5_find := fun _ h => List.mem_cons_of_mem _ (List.mem_append_left _ (List.mem_append_right _ h))
theorem znX5_find_X3 : ∀ w ∈ wsX30, w ∈ wsX5_find := fun _ h => List.mem_cons_of_mem _ (List.mem_append_right _ h)
theorem zdX5_find : yX5_find.cls ≠ "java/lang/invoke/MethodHandle" ∧ yX5_find.cls ≠ "java/lang/invoke/VarHandle" ∧ (parseMethodDescriptor yX5_find.desc).map (fun d => d.parameters.length) = some 0 := by decide +kernel
-- MixingRelays find()I
section
variable {p : Program} {l : Launch} {e : Env} {s : State} {m : MethodId} {args : Array Value} {below : List Frame} {meth : Method} {c : Code} {Q : State → Prop} {G : zG} {O : zM}
def pX5_find_b21 (post : Int32 → zM → Prop) (t0 : Int32) (M : zM) : Prop :=
  post t0 M
set_option maxHeartbeats 4000000 in
set_option maxRecDepth 100000 in
theorem wX5_find_b21 {post : Int32 → zM → Prop}  (hF : CallFix p m c cX5_find 1 s args wsX5_find RX5) (hSt : zSt G s) (hret : zRi p l e ({ frames := 6, cells := 0, slots := 0, locals := 145 } : Room) s m args below meth c Q cX5_find G true O post) (t0 : Int32) (M : zM) (H : Heap) (locs : List Loc) (ls : Array Slot) (hH : zH G true s H locs M O) (hl : lv_has ls 1 []) (h : pX5_find_b21 post t0 M) : W p l e ({ frames := 6, cells := 0, slots := 0, locals := 145 } : Room) s m args below meth c H locs 0 0 Q (F0 m 21 ls [.int t0]) := by
  obtain ⟨hx, hb, hml, hown, hts⟩ := id hF
  unfold pX5_find_b21 at h
  exact hret _ _ _ _ _ _ dX5_find_21 h hH
def pX5_find (M : zM)  (post : Int32 → zM → Prop) : Prop :=
  (¬ ((M.1 1 3) = 0) → pX1_firstSeed M  (fun r18 M18 => pX5_find_b21 post r18 M18)) ∧ ((M.1 1 3) = 0 → pX5_find_b21 post (-1 : Int32) M)
set_option maxHeartbeats 4000000 in
set_option maxRecDepth 100000 in
theorem wX5_find {M : zM} {post : Int32 → zM → Prop} (hF : CallFix p m c cX5_find 1 s args wsX5_find RX5) (hSt : zSt G s) (hret : zRi p l e ({ frames := 6, cells := 0, slots := 0, locals := 145 } : Room) s m args below meth c Q cX5_find G true O post)  (H : Heap) (locs : List Loc) (ls : Array Slot) (hH : zH G true s H locs M O) (hl : lv_has ls 1 [(0, .ref (G.1 0))]) (h : pX5_find M  post) : W p l e ({ frames := 6, cells := 0, slots := 0, locals := 145 } : Room) s m args below meth c H locs 0 0 Q (F0 m 0 ls []) := by
  obtain ⟨hx, hb, hml, hown, hts⟩ := id hF
  unfold pX5_find at h
  refine lv_aload_n hx hb dX5_find_0 rfl (lv_at hl 0 rfl) ?_
  refine zget (v := .ref (G.1 1)) hF hSt hH 0 (by decide) rfl (zE_0 _ _ _) (C := RX5) (T := TX5) (N := 5) rfl znX5_find_X5 0 (by decide) (List.mem_of_getElem? (i := 1) rfl) rfl dX5_find_1 ?_
  refine zget (v := .int (M.1 1 3)) hF hSt hH 1 (by decide) rfl (zE_1 _ _ _) (C := RX2) (T := TX2) (N := 16) rfl znX5_find_X2 3 (by decide) (List.mem_of_getElem? (i := 2) rfl) rfl dX5_find_4 ?_
  refine lv_if_ne (tgt := 14) hx hb dX5_find_7 (by decide) (fun q7 => ?_) (fun q7 => ?_)
  · have h := h.1 q7
    refine lv_aload_n hx hb dX5_find_14 rfl (lv_at hl 0 rfl) ?_
    refine zget (v := .ref (G.1 4)) hF hSt hH 0 (by decide) rfl (zE_0 _ _ _) (C := RX5) (T := TX5) (N := 5) rfl znX5_find_X5 3 (by decide) (List.mem_of_getElem? (i := 3) rfl) rfl dX5_find_15 ?_
    refine zcalli hH (va_runV (As := []) (rest := []) hF (kX1_firstSeed l G M O _ h) (cwV 0 hts gX5_find_X1_firstSeed rfl rfl rfl ⟨rfl, zdX1_firstSeed⟩ ⟨Nat.le_of_ble_eq_true rfl, Nat.le_of_ble_eq_true rfl⟩) (zpreV hSt hH 4 (by decide) rfl (zE_4 _ _ _) (q := (RX1, TX1, 4)) rfl []) rfl rfl hl.1 rfl (lv_room (Nat.le_of_ble_eq_true rfl)) dX5_find_18 ⟨Nat.zero_le _, Nat.zero_le _⟩) (fun r18 M18 H locs h hH => ?_)
    exact wX5_find_b21 hF hSt hret r18 M18 H locs ls hH (lv_sub hl [] rfl) h
  · have h := h.2 q7
    refine lv_iconst (v := (-1 : Int32)) hx hb dX5_find_10 (by decide) ?_
    refine lv_goto (tgt := 21) hx hb dX5_find_11 (by decide) ?_
    exact wX5_find_b21 hF hSt hret (-1 : Int32) M H locs ls hH (lv_sub hl [] rfl) h
set_option maxRecDepth 100000 in
theorem kX5_find (l : Launch) (G : zG) (M O : zM)  (post : Int32 → zM → Prop) (h : pX5_find M  post) : Met l yX5_find wsX5_find ({ frames := 6, cells := 0, slots := 0, locals := 145 } : Room) (zPc G true M O [.ref (G.1 0)]) (va_Qi post (zB G true O) (zAA G)) 0 0 (zAA G) :=
  zmet_i (by decide) rfl (Nat.le_of_ble_eq_true rfl) (fun hF hSt hret H locs ls hH hl => wX5_find hF hSt hret  H locs ls hH hl h)
end
theorem znX1_noteRanks_X1 : ∀ w ∈ wsX10, w ∈ wsX1_noteRanks := fun _ h => List.mem_cons_of_mem _ (List.mem_append_left _ (List.mem_append_left _ (List.mem_append_right _ h)))
theorem znX1_noteRanks_X2 : ∀ w ∈ wsX20, w ∈ wsX1_noteRanks := fun _ h => List.mem_cons_of_mem _ (List.mem_append_left _ (List.mem_append_right _ h))
theorem znX1_noteRanks_X3 : ∀ w ∈ wsX30, w ∈ wsX1_noteRanks := fun _ h => List.mem_cons_of_mem _ (List.mem_append_right _ h)
theorem zdX1_noteRanks : yX1_noteRanks.cls ≠ "java/lang/invoke/MethodHandle" ∧ yX1_noteRanks.cls ≠ "java/lang/invoke/VarHandle" ∧ (parseMethodDescriptor yX1_noteRanks.desc).map (fun d => d.parameters.length) = some 0 := by decide +kernel
-- MixingRelays$Mixer noteRanks()V
section
variable {p : Program} {l : Launch} {e : Env} {s : State} {m : MethodId} {args : Array Value} {below : List Frame} {meth : Method} {c : Code} {Q : State → Prop} {G : zG} {O : zM}
def pX1_noteRanks_b16 (post : zM → Prop) (ag16 : Int32 → zM → Prop) (x1 : Int32) (M : zM) : Prop :=
  ((M.1 1 0) ≤ x1 → post M) ∧ (¬ ((M.1 1 0) ≤ x1) → pX3_gather M x1 (fun r37 M37 => vp_in x1 12 ∧ ag16 (x1 + (1 : Int32)) (zsi M37 20 x1.toNatClampNeg r37)))
set_option maxHeartbeats 4000000 in
set_option maxRecDepth 100000 in
theorem wX1_noteRanks_b16 {post : zM → Prop} {ag16 : Int32 → zM → Prop} (hF : CallFix p m c cX1_noteRanks 2 s args wsX1_noteRanks RX1) (hSt : zSt G s) (hret : zRv p l e ({ frames := 4, cells := 0, slots := 0, locals := 102 } : Room) s m args below meth c Q cX1_noteRanks G true O post) (hag16 : ∀ (x1 : Int32) (M : zM) (H : Heap) (locs : List Loc) (ls : Array Slot), ag16 x1 M → zH G true s H locs M O → lv_has ls 2 [(0, .ref (G.1 4)), (1, .int x1)] → W p l e ({ frames := 4, cells := 0, slots := 0, locals := 102 } : Room) s m args below meth c H locs 0 0 Q (F0 m 16 ls [])) (x1 : Int32) (M : zM) (H : Heap) (locs : List Loc) (ls : Array Slot) (hH : zH G true s H locs M O) (hl : lv_has ls 2 [(0, .ref (G.1 4)), (1, .int x1)]) (h : pX1_noteRanks_b16 post ag16 x1 M) : W p l e ({ frames := 4, cells := 0, slots := 0, locals := 102 } : Room) s m args below meth c H locs 0 0 Q (F0 m 16 ls []) := by
  obtain ⟨hx, hb, hml, hown, hts⟩ := id hF
  unfold pX1_noteRanks_b16 at h
  refine lv_iload_n hx hb dX1_noteRanks_16 rfl (lv_at hl 1 rfl) ?_
  refine lv_aload_n hx hb dX1_noteRanks_17 rfl (lv_at hl 0 rfl) ?_
  refine zget (v := .ref (G.1 1)) hF hSt hH 4 (by decide) rfl (zE_4 _ _ _) (C := RX1) (T := TX1) (N := 4) rfl znX1_noteRanks_X1 0 (by decide) (List.mem_of_getElem? (i := 1) rfl) rfl dX1_noteRanks_18 ?_
  refine zget (v := .int (M.1 1 0)) hF hSt hH 1 (by decide) rfl (zE_1 _ _ _) (C := RX2) (T := TX2) (N := 16) rfl znX1_noteRanks_X2 0 (by decide) (List.mem_of_getElem? (i := 3) rfl) rfl dX1_noteRanks_21 ?_
  refine lv_icmp_ge (tgt := 47) hx hb dX1_noteRanks_24 (by decide) (fun q24 => ?_) (fun q24 => ?_)
  · have h := h.1 q24
    exact hret _ _ _ _ _ dX1_noteRanks_47 h hH
  · have h := h.2 q24
    refine lv_aload_n hx hb dX1_noteRanks_27 rfl (lv_at hl 0 rfl) ?_
    refine zget (v := .ref (G.1 20)) hF hSt hH 4 (by decide) rfl (zE_4 _ _ _) (C := RX1) (T := TX1) (N := 4) rfl znX1_noteRanks_X1 3 (by decide) (List.mem_of_getElem? (i := 4) rfl) rfl dX1_noteRanks_28 ?_
    refine lv_iload_n hx hb dX1_noteRanks_31 rfl (lv_at hl 1 rfl) ?_
    refine lv_aload_n hx hb dX1_noteRanks_32 rfl (lv_at hl 0 rfl) ?_
    refine zget (v := .ref (G.1 3)) hF hSt hH 4 (by decide) rfl (zE_4 _ _ _) (C := RX1) (T := TX1) (N := 4) rfl znX1_noteRanks_X1 1 (by decide) (List.mem_of_getElem? (i := 5) rfl) rfl dX1_noteRanks_33 ?_
    refine lv_iload_n hx hb dX1_noteRanks_36 rfl (lv_at hl 1 rfl) ?_
    refine zcalli hH (va_runV (As := [.int x1]) (rest := [.int x1, .ref (G.1 20)]) hF (kX3_gather l G M O x1 _ h) (cwV 1 hts gX1_noteRanks_X3_gather rfl rfl rfl ⟨rfl, zdX3_gather⟩ ⟨Nat.le_of_ble_eq_true rfl, Nat.le_of_ble_eq_true rfl⟩) (zpreV hSt hH 3 (by decide) rfl (zE_3 _ _ _) (q := (RX3, TX3, 4)) rfl [.int x1]) rfl rfl hl.1 rfl (lv_room (Nat.le_of_ble_eq_true rfl)) dX1_noteRanks_37 ⟨Nat.zero_le _, Nat.zero_le _⟩) (fun r37 M37 H locs h hH => ?_)
    obtain ⟨q40, h⟩ := h
    refine zast hF hSt hH 20 (by decide) rfl (zE_20 _) (x := r37) q40 dX1_noteRanks_40 (fun H locs hH => ?_)
    refine lv_iinc (v := (x1 + (1 : Int32))) (lv' := [(1, .int (x1 + (1 : Int32))), (0, .ref (G.1 4))]) hx hb dX1_noteRanks_41 hl (k := 1) rfl rfl (by decide) rfl (fun ls hl => ?_)
    refine lv_goto (tgt := 16) hx hb dX1_noteRanks_44 (by decide) ?_
    exact hag16 (x1 + (1 : Int32)) (zsi M37 20 x1.toNatClampNeg r37) H locs ls h hH (lv_sub hl [1, 0] rfl)
def pX1_noteRanks_L16 (post : zM → Prop) (x1 : Int32) (M : zM) : Prop :=
  ∃ I : Nat → Int32 → zM → Prop, (∃ n, I n x1 M) ∧ ∀ n x1 M, I n x1 M → pX1_noteRanks_b16 post (fun x1 M => ∃ k, k < n ∧ I k x1 M) x1 M
set_option maxHeartbeats 4000000 in
theorem wX1_noteRanks_L16 {post : zM → Prop}  (hF : CallFix p m c cX1_noteRanks 2 s args wsX1_noteRanks RX1) (hSt : zSt G s) (hret : zRv p l e ({ frames := 4, cells := 0, slots := 0, locals := 102 } : Room) s m args below meth c Q cX1_noteRanks G true O post) (x1 : Int32) (M : zM) (H : Heap) (locs : List Loc) (ls : Array Slot) (hH : zH G true s H locs M O) (hl : lv_has ls 2 [(0, .ref (G.1 4)), (1, .int x1)]) (h : pX1_noteRanks_L16 post x1 M) : W p l e ({ frames := 4, cells := 0, slots := 0, locals := 102 } : Room) s m args below meth c H locs 0 0 Q (F0 m 16 ls []) := by
  obtain ⟨I, ⟨n, hI⟩, hs⟩ := h
  have key : ∀ (n : Nat) (x1 : Int32) (M : zM) (H : Heap) (locs : List Loc) (ls : Array Slot), I n x1 M → zH G true s H locs M O → lv_has ls 2 [(0, .ref (G.1 4)), (1, .int x1)] → W p l e ({ frames := 4, cells := 0, slots := 0, locals := 102 } : Room) s m args below meth c H locs 0 0 Q (F0 m 16 ls []) := by
    intro n
    induction n using Nat.strongRecOn with
    | _ n ih =>
      intro x1 M H locs ls hI hH hl
      exact wX1_noteRanks_b16 hF hSt hret (fun x1 M H locs ls h hH hl => by obtain ⟨k, hk, hI⟩ := h; exact ih k hk x1 M H locs ls hI hH hl) x1 M H locs ls hH hl (hs n x1 M hI)
  exact key n x1 M H locs ls hI hH hl
def pX1_noteRanks (M : zM)  (post : zM → Prop) : Prop :=
  pX2_spreadVectors M (M.1 1 5) (fun M11 => pX1_noteRanks_L16 post (1 : Int32) M11)
set_option maxHeartbeats 4000000 in
set_option maxRecDepth 100000 in
theorem wX1_noteRanks {M : zM} {post : zM → Prop} (hF : CallFix p m c cX1_noteRanks 2 s args wsX1_noteRanks RX1) (hSt : zSt G s) (hret : zRv p l e ({ frames := 4, cells := 0, slots := 0, locals := 102 } : Room) s m args below meth c Q cX1_noteRanks G true O post)  (H : Heap) (locs : List Loc) (ls : Array Slot) (hH : zH G true s H locs M O) (hl : lv_has ls 2 [(0, .ref (G.1 4))]) (h : pX1_noteRanks M  post) : W p l e ({ frames := 4, cells := 0, slots := 0, locals := 102 } : Room) s m args below meth c H locs 0 0 Q (F0 m 0 ls []) := by
  obtain ⟨hx, hb, hml, hown, hts⟩ := id hF
  unfold pX1_noteRanks at h
  refine lv_aload_n hx hb dX1_noteRanks_0 rfl (lv_at hl 0 rfl) ?_
  refine zget (v := .ref (G.1 1)) hF hSt hH 4 (by decide) rfl (zE_4 _ _ _) (C := RX1) (T := TX1) (N := 4) rfl znX1_noteRanks_X1 0 (by decide) (List.mem_of_getElem? (i := 1) rfl) rfl dX1_noteRanks_1 ?_
  refine lv_aload_n hx hb dX1_noteRanks_4 rfl (lv_at hl 0 rfl) ?_
  refine zget (v := .ref (G.1 1)) hF hSt hH 4 (by decide) rfl (zE_4 _ _ _) (C := RX1) (T := TX1) (N := 4) rfl znX1_noteRanks_X1 0 (by decide) (List.mem_of_getElem? (i := 1) rfl) rfl dX1_noteRanks_5 ?_
  refine zget (v := .int (M.1 1 5)) hF hSt hH 1 (by decide) rfl (zE_1 _ _ _) (C := RX2) (T := TX2) (N := 16) rfl znX1_noteRanks_X2 5 (by decide) (List.mem_of_getElem? (i := 2) rfl) rfl dX1_noteRanks_8 ?_
  refine zcallv hH (va_runV (As := [.int (M.1 1 5)]) (rest := []) hF (kX2_spreadVectors l G M O (M.1 1 5) _ h) (cwV 1 hts gX1_noteRanks_X2_spreadVectors rfl rfl rfl ⟨rfl, zdX2_spreadVectors⟩ ⟨Nat.le_of_ble_eq_true rfl, Nat.le_of_ble_eq_true rfl⟩) (zpreV hSt hH 1 (by decide) rfl (zE_1 _ _ _) (q := (RX2, TX2, 16)) rfl [.int (M.1 1 5)]) rfl rfl hl.1 rfl (lv_room (Nat.le_of_ble_eq_true rfl)) dX1_noteRanks_11 ⟨Nat.zero_le _, Nat.zero_le _⟩) (fun M11 H locs h hH => ?_)
  refine lv_iconst (v := (1 : Int32)) hx hb dX1_noteRanks_14 (by decide) ?_
  refine lv_istore_n (lv' := [(1, .int (1 : Int32)), (0, .ref (G.1 4))]) hx hb dX1_noteRanks_15 rfl hl (by decide) rfl (fun ls hl => ?_)
  exact wX1_noteRanks_L16 hF hSt hret (1 : Int32) M11 H locs ls hH (lv_sub hl [1, 0] rfl) h
set_option maxRecDepth 100000 in
theorem kX1_noteRanks (l : Launch) (G : zG) (M O : zM)  (post : zM → Prop) (h : pX1_noteRanks M  post) : Met l yX1_noteRanks wsX1_noteRanks ({ frames := 4, cells := 0, slots := 0, locals := 102 } : Room) (zPc G true M O [.ref (G.1 4)]) (va_Qv post (zB G true O) (zAA G)) 0 0 (zAA G) :=
  zmet_v (by decide) rfl (Nat.le_of_ble_eq_true rfl) (fun hF hSt hret H locs ls hH hl => wX1_noteRanks hF hSt hret  H locs ls hH hl h)
end
theorem zdJ7_rangeCheck_23922 : yJ7_rangeCheck_23922.cls ≠ "java/lang/invoke/MethodHandle" ∧ yJ7_rangeCheck_23922.cls ≠ "java/lang/invoke/VarHandle" ∧ (parseMethodDescriptor yJ7_rangeCheck_23922.desc).map (fun d => d.parameters.length) = some 3 := by decide +kernel
-- java/util/Arrays rangeCheck(III)V
section
variable {p : Program} {l : Launch} {e : Env} {s : State} {m : MethodId} {args : Array Value} {below : List Frame} {meth : Method} {c : Code} {Q : State → Prop} {G : zG} {O : zM}
def pJ7_rangeCheck_23922 (x0 : Int32) (x1 : Int32) (x2 : Int32) (post : Prop) : Prop :=
  (x1 ≤ x2 → (0 ≤ x1 → (x2 ≤ x0 → post) ∧ (¬ (x2 ≤ x0) → False)) ∧ (¬ (0 ≤ x1) → False)) ∧ (¬ (x1 ≤ x2) → False)
set_option maxHeartbeats 4000000 in
set_option maxRecDepth 100000 in
theorem wJ7_rangeCheck_23922 {M : zM} {post : Prop} (hF : CallFix p m c cJ7_rangeCheck_23922 3 s args wsJ7_rangeCheck_23922 RJ7) (hSt : zSt G s) (hret : zRv p l e ({ frames := 0, cells := 0, slots := 0, locals := 0 } : Room) s m args below meth c Q cJ7_rangeCheck_23922 G true O (fun M1 => M1 = M ∧ post)) (x0 : Int32) (x1 : Int32) (x2 : Int32) (H : Heap) (locs : List Loc) (ls : Array Slot) (hH : zH G true s H locs M O) (hl : lv_has ls 3 [(0, .int x0), (1, .int x1), (2, .int x2)]) (h : pJ7_rangeCheck_23922 x0 x1 x2 post) : W p l e ({ frames := 0, cells := 0, slots := 0, locals := 0 } : Room) s m args below meth c H locs 0 0 Q (F0 m 0 ls []) := by
  obtain ⟨hx, hb, hml, hown, hts⟩ := id hF
  unfold pJ7_rangeCheck_23922 at h
  refine lv_iload_n hx hb dJ7_rangeCheck_23922_0 rfl (lv_at hl 1 rfl) ?_
  refine lv_iload_n hx hb dJ7_rangeCheck_23922_1 rfl (lv_at hl 2 rfl) ?_
  refine lv_icmp_le (tgt := 46) hx hb dJ7_rangeCheck_23922_2 (by decide) (fun q2 => ?_) (fun q2 => ?_)
  · have h := h.1 q2
    refine lv_iload_n hx hb dJ7_rangeCheck_23922_46 rfl (lv_at hl 1 rfl) ?_
    refine lv_if_ge (tgt := 59) hx hb dJ7_rangeCheck_23922_47 (by decide) (fun q47 => ?_) (fun q47 => ?_)
    · have h := h.1 q47
      refine lv_iload_n hx hb dJ7_rangeCheck_23922_59 rfl (lv_at hl 2 rfl) ?_
      refine lv_iload_n hx hb dJ7_rangeCheck_23922_60 rfl (lv_at hl 0 rfl) ?_
      refine lv_icmp_le (tgt := 73) hx hb dJ7_rangeCheck_23922_61 (by decide) (fun q61 => ?_) (fun q61 => ?_)
      · have h := h.1 q61
        exact hret _ _ _ _ _ dJ7_rangeCheck_23922_73 ⟨rfl, h⟩ hH
      · have h := h.2 q61
        exact h.elim
    · have h := h.2 q47
      exact h.elim
  · have h := h.2 q2
    exact h.elim
set_option maxRecDepth 100000 in
theorem kJ7_rangeCheck_23922 (l : Launch) (G : zG) (M O : zM) (x0 : Int32) (x1 : Int32) (x2 : Int32) (post : Prop) (h : pJ7_rangeCheck_23922 x0 x1 x2 post) : Met l yJ7_rangeCheck_23922 wsJ7_rangeCheck_23922 ({ frames := 0, cells := 0, slots := 0, locals := 0 } : Room) (zPc G true M O [.int x0, .int x1, .int x2]) (va_Qv (fun M1 => M1 = M ∧ post) (zB G true O) (zAA G)) 0 0 (zAA G) :=
  zmet_v (by decide) rfl (Nat.le_of_ble_eq_true rfl) (fun hF hSt hret H locs ls hH hl => wJ7_rangeCheck_23922 hF hSt hret x0 x1 x2 H locs ls hH hl h)
end
theorem zdJ7_fill_fda19 : yJ7_fill_fda19.cls ≠ "java/lang/invoke/MethodHandle" ∧ yJ7_fill_fda19.cls ≠ "java/lang/invoke/VarHandle" ∧ (parseMethodDescriptor yJ7_fill_fda19.desc).map (fun d => d.parameters.length) = some 4 := by decide +kernel
-- java/util/Arrays fill([IIII)V
section
variable {p : Program} {l : Launch} {e : Env} {s : State} {m : MethodId} {args : Array Value} {below : List Frame} {meth : Method} {c : Code} {Q : State → Prop} {G : zG} {O : zM}
def pJ7_fill_fda19_10_b10 (post : zM → Prop) (ag10 : Int32 → Int32 → Int32 → zM → Prop) (x2 : Int32) (x3 : Int32) (x4 : Int32) (M : zM) : Prop :=
  (x2 ≤ x4 → post M) ∧ (¬ (x2 ≤ x4) → vp_in x4 900 ∧ ag10 x2 x3 (x4 + (1 : Int32)) (zsi M 10 x4.toNatClampNeg x3))
set_option maxHeartbeats 4000000 in
set_option maxRecDepth 100000 in
theorem wJ7_fill_fda19_10_b10 {post : zM → Prop} {ag10 : Int32 → Int32 → Int32 → zM → Prop} (hF : CallFix p m c cJ7_fill_fda19 5 s args wsJ7_fill_fda19 RJ7) (hSt : zSt G s) (hret : zRv p l e ({ frames := 1, cells := 0, slots := 0, locals := 22 } : Room) s m args below meth c Q cJ7_fill_fda19 G true O post) (hag10 : ∀ (x2 : Int32) (x3 : Int32) (x4 : Int32) (M : zM) (H : Heap) (locs : List Loc) (ls : Array Slot), ag10 x2 x3 x4 M → zH G true s H locs M O → lv_has ls 5 [(0, .ref (G.1 10)), (2, .int x2), (3, .int x3), (4, .int x4)] → W p l e ({ frames := 1, cells := 0, slots := 0, locals := 22 } : Room) s m args below meth c H locs 0 0 Q (F0 m 10 ls [])) (x2 : Int32) (x3 : Int32) (x4 : Int32) (M : zM) (H : Heap) (locs : List Loc) (ls : Array Slot) (hH : zH G true s H locs M O) (hl : lv_has ls 5 [(0, .ref (G.1 10)), (2, .int x2), (3, .int x3), (4, .int x4)]) (h : pJ7_fill_fda19_10_b10 post ag10 x2 x3 x4 M) : W p l e ({ frames := 1, cells := 0, slots := 0, locals := 22 } : Room) s m args below meth c H locs 0 0 Q (F0 m 10 ls []) := by
  obtain ⟨hx, hb, hml, hown, hts⟩ := id hF
  unfold pJ7_fill_fda19_10_b10 at h
  refine lv_iload hx hb dJ7_fill_fda19_10 (lv_at hl 3 rfl) ?_
  refine lv_iload_n hx hb dJ7_fill_fda19_12 rfl (lv_at hl 1 rfl) ?_
  refine lv_icmp_ge (tgt := 27) hx hb dJ7_fill_fda19_13 (by decide) (fun q13 => ?_) (fun q13 => ?_)
  · have h := h.1 q13
    exact hret _ _ _ _ _ dJ7_fill_fda19_27 h hH
  · have h := h.2 q13
    refine lv_aload_n hx hb dJ7_fill_fda19_16 rfl (lv_at hl 0 rfl) ?_
    refine lv_iload hx hb dJ7_fill_fda19_17 (lv_at hl 3 rfl) ?_
    refine lv_iload_n hx hb dJ7_fill_fda19_19 rfl (lv_at hl 2 rfl) ?_
    obtain ⟨q20, h⟩ := h
    refine zast hF hSt hH 10 (by decide) rfl (zE_10 _) (x := x3) q20 dJ7_fill_fda19_20 (fun H locs hH => ?_)
    refine lv_iinc (v := (x4 + (1 : Int32))) (lv' := [(4, .int (x4 + (1 : Int32))), (0, .ref (G.1 10)), (2, .int x2), (3, .int x3)]) hx hb dJ7_fill_fda19_21 hl (k := 3) rfl rfl (by decide) rfl (fun ls hl => ?_)
    refine lv_goto (tgt := 10) hx hb dJ7_fill_fda19_24 (by decide) ?_
    exact hag10 x2 x3 (x4 + (1 : Int32)) (zsi M 10 x4.toNatClampNeg x3) H locs ls h hH (lv_sub hl [1, 2, 3, 0] rfl)
def pJ7_fill_fda19_10_L10 (post : zM → Prop) (x2 : Int32) (x3 : Int32) (x4 : Int32) (M : zM) : Prop :=
  ∃ I : Nat → Int32 → Int32 → Int32 → zM → Prop, (∃ n, I n x2 x3 x4 M) ∧ ∀ n x2 x3 x4 M, I n x2 x3 x4 M → pJ7_fill_fda19_10_b10 post (fun x2 x3 x4 M => ∃ k, k < n ∧ I k x2 x3 x4 M) x2 x3 x4 M
set_option maxHeartbeats 4000000 in
theorem wJ7_fill_fda19_10_L10 {post : zM → Prop}  (hF : CallFix p m c cJ7_fill_fda19 5 s args wsJ7_fill_fda19 RJ7) (hSt : zSt G s) (hret : zRv p l e ({ frames := 1, cells := 0, slots := 0, locals := 22 } : Room) s m args below meth c Q cJ7_fill_fda19 G true O post) (x2 : Int32) (x3 : Int32) (x4 : Int32) (M : zM) (H : Heap) (locs : List Loc) (ls : Array Slot) (hH : zH G true s H locs M O) (hl : lv_has ls 5 [(0, .ref (G.1 10)), (2, .int x2), (3, .int x3), (4, .int x4)]) (h : pJ7_fill_fda19_10_L10 post x2 x3 x4 M) : W p l e ({ frames := 1, cells := 0, slots := 0, locals := 22 } : Room) s m args below meth c H locs 0 0 Q (F0 m 10 ls []) := by
  obtain ⟨I, ⟨n, hI⟩, hs⟩ := h
  have key : ∀ (n : Nat) (x2 : Int32) (x3 : Int32) (x4 : Int32) (M : zM) (H : Heap) (locs : List Loc) (ls : Array Slot), I n x2 x3 x4 M → zH G true s H locs M O → lv_has ls 5 [(0, .ref (G.1 10)), (2, .int x2), (3, .int x3), (4, .int x4)] → W p l e ({ frames := 1, cells := 0, slots := 0, locals := 22 } : Room) s m args below meth c H locs 0 0 Q (F0 m 10 ls []) := by
    intro n
    induction n using Nat.strongRecOn with
    | _ n ih =>
      intro x2 x3 x4 M H locs ls hI hH hl
      exact wJ7_fill_fda19_10_b10 hF hSt hret (fun x2 x3 x4 M H locs ls h hH hl => by obtain ⟨k, hk, hI⟩ := h; exact ih k hk x2 x3 x4 M H locs ls hI hH hl) x2 x3 x4 M H locs ls hH hl (hs n x2 x3 x4 M hI)
  exact key n x2 x3 x4 M H locs ls hI hH hl
def pJ7_fill_fda19_10 (M : zM) (x1 : Int32) (x2 : Int32) (x3 : Int32) (post : zM → Prop) : Prop :=
  pJ7_rangeCheck_23922 (900 : Int32) x1 x2 (pJ7_fill_fda19_10_L10 post x2 x3 x1 M)
set_option maxHeartbeats 4000000 in
set_option maxRecDepth 100000 in
theorem wJ7_fill_fda19_10 {M : zM} {post : zM → Prop} (hF : CallFix p m c cJ7_fill_fda19 5 s args wsJ7_fill_fda19 RJ7) (hSt : zSt G s) (hret : zRv p l e ({ frames := 1, cells := 0, slots := 0, locals := 22 } : Room) s m args below meth c Q cJ7_fill_fda19 G true O post) (x1 : Int32) (x2 : Int32) (x3 : Int32) (H : Heap) (locs : List Loc) (ls : Array Slot) (hH : zH G true s H locs M O) (hl : lv_has ls 5 [(0, .ref (G.1 10)), (1, .int x1), (2, .int x2), (3, .int x3)]) (h : pJ7_fill_fda19_10 M x1 x2 x3 post) : W p l e ({ frames := 1, cells := 0, slots := 0, locals := 22 } : Room) s m args below meth c H locs 0 0 Q (F0 m 0 ls []) := by
  obtain ⟨hx, hb, hml, hown, hts⟩ := id hF
  unfold pJ7_fill_fda19_10 at h
  refine lv_aload_n hx hb dJ7_fill_fda19_0 rfl (lv_at hl 0 rfl) ?_
  refine zalenI hF hSt hH 10 (by decide) rfl (zE_10 _ _ _) (v := (900 : Int32)) (by decide) dJ7_fill_fda19_1 ?_
  refine lv_iload_n hx hb dJ7_fill_fda19_2 rfl (lv_at hl 1 rfl) ?_
  refine lv_iload_n hx hb dJ7_fill_fda19_3 rfl (lv_at hl 2 rfl) ?_
  refine zcallvP hH (va_runS (As := [.int (900 : Int32), .int x1, .int x2]) (rest := []) hF (kJ7_rangeCheck_23922 l G M O (900 : Int32) x1 x2 _ h) (va_cwS 3 hts gJ7_fill_fda19_J7_rangeCheck_23922 rfl rfl rfl zdJ7_rangeCheck_23922 ⟨Nat.le_of_ble_eq_true rfl, Nat.le_of_ble_eq_true rfl⟩) (zpreS hSt hH [.int (900 : Int32), .int x1, .int x2]) rfl rfl hl.1 rfl (lv_room (Nat.le_of_ble_eq_true rfl)) dJ7_fill_fda19_4 ⟨Nat.zero_le _, Nat.zero_le _⟩) (fun H locs h hH => ?_)
  refine lv_iload_n hx hb dJ7_fill_fda19_7 rfl (lv_at hl 1 rfl) ?_
  refine lv_istore (lv' := [(4, .int x1), (0, .ref (G.1 10)), (1, .int x1), (2, .int x2), (3, .int x3)]) hx hb dJ7_fill_fda19_8 hl (by decide) rfl (fun ls hl => ?_)
  exact wJ7_fill_fda19_10_L10 hF hSt hret x2 x3 x1 M H locs ls hH (lv_sub hl [1, 3, 4, 0] rfl) h
set_option maxRecDepth 100000 in
theorem kJ7_fill_fda19_10 (l : Launch) (G : zG) (M O : zM) (x1 : Int32) (x2 : Int32) (x3 : Int32) (post : zM → Prop) (h : pJ7_fill_fda19_10 M x1 x2 x3 post) : Met l yJ7_fill_fda19 wsJ7_fill_fda19 ({ frames := 1, cells := 0, slots := 0, locals := 22 } : Room) (zPc G true M O [.ref (G.1 10), .int x1, .int x2, .int x3]) (va_Qv post (zB G true O) (zAA G)) 0 0 (zAA G) :=
  zmet_v (by decide) rfl (Nat.le_of_ble_eq_true rfl) (fun hF hSt hret H locs ls hH hl => wJ7_fill_fda19_10 hF hSt hret x1 x2 x3 H locs ls hH hl h)
end
theorem znX1_ranksHold_X1 : ∀ w ∈ wsX10, w ∈ wsX1_ranksHold := fun _ h => List.mem_cons_of_mem _ (List.mem_append_left _ (List.mem_append_left _ (List.mem_append_right _ h)))
theorem znX1_ranksHold_X2 : ∀ w ∈ wsX20, w ∈ wsX1_ranksHold := fun _ h => List.mem_cons_of_mem _ (List.mem_append_left _ (List.mem_append_right _ h))
theorem znX1_ranksHold_X3 : ∀ w ∈ wsX30, w ∈ wsX1_ranksHold := fun _ h => List.mem_cons_of_mem _ (List.mem_append_right _ h)
theorem zdX1_ranksHold : yX1_ranksHold.cls ≠ "java/lang/invoke/MethodHandle" ∧ yX1_ranksHold.cls ≠ "java/lang/invoke/VarHandle" ∧ (parseMethodDescriptor yX1_ranksHold.desc).map (fun d => d.parameters.length) = some 0 := by decide +kernel
-- MixingRelays$Mixer ranksHold()Z
section
variable {p : Program} {l : Launch} {e : Env} {s : State} {m : MethodId} {args : Array Value} {below : List Frame} {meth : Method} {c : Code} {Q : State → Prop} {G : zG} {O : zM}
def pX1_ranksHold_b61 (post : Int32 → zM → Prop) (ag16 : Int32 → zM → Prop) (x1 : Int32) (M : zM) : Prop :=
  ag16 (x1 + (1 : Int32)) M
set_option maxHeartbeats 4000000 in
set_option maxRecDepth 100000 in
theorem wX1_ranksHold_b61 {post : Int32 → zM → Prop} {ag16 : Int32 → zM → Prop} (hF : CallFix p m c cX1_ranksHold 2 s args wsX1_ranksHold RX1) (hSt : zSt G s) (hret : zRz p l e ({ frames := 4, cells := 0, slots := 0, locals := 102 } : Room) s m args below meth c Q cX1_ranksHold G true O post) (hag16 : ∀ (x1 : Int32) (M : zM) (H : Heap) (locs : List Loc) (ls : Array Slot), ag16 x1 M → zH G true s H locs M O → lv_has ls 2 [(0, .ref (G.1 4)), (1, .int x1)] → W p l e ({ frames := 4, cells := 0, slots := 0, locals := 102 } : Room) s m args below meth c H locs 0 0 Q (F0 m 16 ls [])) (x1 : Int32) (M : zM) (H : Heap) (locs : List Loc) (ls : Array Slot) (hH : zH G true s H locs M O) (hl : lv_has ls 2 [(0, .ref (G.1 4)), (1, .int x1)]) (h : pX1_ranksHold_b61 post ag16 x1 M) : W p l e ({ frames := 4, cells := 0, slots := 0, locals := 102 } : Room) s m args below meth c H locs 0 0 Q (F0 m 61 ls []) := by
  obtain ⟨hx, hb, hml, hown, hts⟩ := id hF
  unfold pX1_ranksHold_b61 at h
  refine lv_iinc (v := (x1 + (1 : Int32))) (lv' := [(1, .int (x1 + (1 : Int32))), (0, .ref (G.1 4))]) hx hb dX1_ranksHold_61 hl (k := 1) rfl rfl (by decide) rfl (fun ls hl => ?_)
  refine lv_goto (tgt := 16) hx hb dX1_ranksHold_64 (by decide) ?_
  exact hag16 (x1 + (1 : Int32)) M H locs ls h hH (lv_sub hl [1, 0] rfl)
def pX1_ranksHold_b16 (post : Int32 → zM → Prop) (ag16 : Int32 → zM → Prop) (x1 : Int32) (M : zM) : Prop :=
  ((M.1 1 0) ≤ x1 → ((1 : Int32) = 0 ∨ (1 : Int32) = 1) ∧ post (1 : Int32) M) ∧ (¬ ((M.1 1 0) ≤ x1) → pX5_flag (M.1 1 3) x1 (fun r35 => (¬ (r35 = (1 : Int32)) → pX1_ranksHold_b61 post ag16 x1 M) ∧ (r35 = (1 : Int32) → pX3_gather M x1 (fun r47 M47 => vp_in x1 12 ∧ (r47 = (M47.1 20 x1.toNatClampNeg) → pX1_ranksHold_b61 post ag16 x1 M47) ∧ (¬ (r47 = (M47.1 20 x1.toNatClampNeg)) → ((0 : Int32) = 0 ∨ (0 : Int32) = 1) ∧ post (0 : Int32) M47)))))
set_option maxHeartbeats 4000000 in
set_option maxRecDepth 100000 in
theorem wX1_ranksHold_b16 {post : Int32 → zM → Prop} {ag16 : Int32 → zM → Prop} (hF : CallFix p m c cX1_ranksHold 2 s args wsX1_ranksHold RX1) (hSt : zSt G s) (hret : zRz p l e ({ frames := 4, cells := 0, slots := 0, locals := 102 } : Room) s m args below meth c Q cX1_ranksHold G true O post) (hag16 : ∀ (x1 : Int32) (M : zM) (H : Heap) (locs : List Loc) (ls : Array Slot), ag16 x1 M → zH G true s H locs M O → lv_has ls 2 [(0, .ref (G.1 4)), (1, .int x1)] → W p l e ({ frames := 4, cells := 0, slots := 0, locals := 102 } : Room) s m args below meth c H locs 0 0 Q (F0 m 16 ls [])) (x1 : Int32) (M : zM) (H : Heap) (locs : List Loc) (ls : Array Slot) (hH : zH G true s H locs M O) (hl : lv_has ls 2 [(0, .ref (G.1 4)), (1, .int x1)]) (h : pX1_ranksHold_b16 post ag16 x1 M) : W p l e ({ frames := 4, cells := 0, slots := 0, locals := 102 } : Room) s m args below meth c H locs 0 0 Q (F0 m 16 ls []) := by
  obtain ⟨hx, hb, hml, hown, hts⟩ := id hF
  unfold pX1_ranksHold_b16 at h
  refine lv_iload_n hx hb dX1_ranksHold_16 rfl (lv_at hl 1 rfl) ?_
  refine lv_aload_n hx hb dX1_ranksHold_17 rfl (lv_at hl 0 rfl) ?_
  refine zget (v := .ref (G.1 1)) hF hSt hH 4 (by decide) rfl (zE_4 _ _ _) (C := RX1) (T := TX1) (N := 4) rfl znX1_ranksHold_X1 0 (by decide) (List.mem_of_getElem? (i := 1) rfl) rfl dX1_ranksHold_18 ?_
  refine zget (v := .int (M.1 1 0)) hF hSt hH 1 (by decide) rfl (zE_1 _ _ _) (C := RX2) (T := TX2) (N := 16) rfl znX1_ranksHold_X2 0 (by decide) (List.mem_of_getElem? (i := 3) rfl) rfl dX1_ranksHold_21 ?_
  refine lv_icmp_ge (tgt := 67) hx hb dX1_ranksHold_24 (by decide) (fun q24 => ?_) (fun q24 => ?_)
  · have h := h.1 q24
    refine lv_iconst (v := (1 : Int32)) hx hb dX1_ranksHold_67 (by decide) ?_
    exact hret _ _ _ _ _ _ dX1_ranksHold_68 h hH
  · have h := h.2 q24
    refine lv_aload_n hx hb dX1_ranksHold_27 rfl (lv_at hl 0 rfl) ?_
    refine zget (v := .ref (G.1 1)) hF hSt hH 4 (by decide) rfl (zE_4 _ _ _) (C := RX1) (T := TX1) (N := 4) rfl znX1_ranksHold_X1 0 (by decide) (List.mem_of_getElem? (i := 1) rfl) rfl dX1_ranksHold_28 ?_
    refine zget (v := .int (M.1 1 3)) hF hSt hH 1 (by decide) rfl (zE_1 _ _ _) (C := RX2) (T := TX2) (N := 16) rfl znX1_ranksHold_X2 3 (by decide) (List.mem_of_getElem? (i := 4) rfl) rfl dX1_ranksHold_31 ?_
    refine lv_iload_n hx hb dX1_ranksHold_34 rfl (lv_at hl 1 rfl) ?_
    refine zcalliP hH (va_runSN (As := [.int (M.1 1 3), .int x1]) (rest := []) hF (kX5_flag l G M O (M.1 1 3) x1 _ h) ⟨va_cnB 2 hts gX1_ranksHold_X5_flag_n35 rfl rfl rfl (hSt.2.2.1 _ zNest_X1_35) (hts _ (List.mem_of_getElem? (i := 16) rfl)) zdX5_flag ⟨Nat.le_of_ble_eq_true rfl, Nat.le_of_ble_eq_true rfl⟩, hts _ (List.mem_of_getElem? (i := 15) rfl), trivial⟩ (zpreS hSt hH [.int (M.1 1 3), .int x1]) rfl rfl hl.1 rfl (lv_room (Nat.le_of_ble_eq_true rfl)) dX1_ranksHold_35 ⟨Nat.zero_le _, Nat.zero_le _⟩) (fun r35 H locs h hH => ?_)
    refine lv_iconst (v := (1 : Int32)) hx hb dX1_ranksHold_38 (by decide) ?_
    refine lv_icmp_ne (tgt := 61) hx hb dX1_ranksHold_39 (by decide) (fun q39 => ?_) (fun q39 => ?_)
    · have h := h.1 q39
      exact wX1_ranksHold_b61 hF hSt hret hag16 x1 M H locs ls hH (lv_sub hl [0, 1] rfl) h
    · have h := h.2 q39
      refine lv_aload_n hx hb dX1_ranksHold_42 rfl (lv_at hl 0 rfl) ?_
      refine zget (v := .ref (G.1 3)) hF hSt hH 4 (by decide) rfl (zE_4 _ _ _) (C := RX1) (T := TX1) (N := 4) rfl znX1_ranksHold_X1 1 (by decide) (List.mem_of_getElem? (i := 5) rfl) rfl dX1_ranksHold_43 ?_
      refine lv_iload_n hx hb dX1_ranksHold_46 rfl (lv_at hl 1 rfl) ?_
      refine zcalli hH (va_runV (As := [.int x1]) (rest := []) hF (kX3_gather l G M O x1 _ h) (cwV 1 hts gX1_ranksHold_X3_gather rfl rfl rfl ⟨rfl, zdX3_gather⟩ ⟨Nat.le_of_ble_eq_true rfl, Nat.le_of_ble_eq_true rfl⟩) (zpreV hSt hH 3 (by decide) rfl (zE_3 _ _ _) (q := (RX3, TX3, 4)) rfl [.int x1]) rfl rfl hl.1 rfl (lv_room (Nat.le_of_ble_eq_true rfl)) dX1_ranksHold_47 ⟨Nat.zero_le _, Nat.zero_le _⟩) (fun r47 M47 H locs h hH => ?_)
      refine lv_aload_n hx hb dX1_ranksHold_50 rfl (lv_at hl 0 rfl) ?_
      refine zget (v := .ref (G.1 20)) hF hSt hH 4 (by decide) rfl (zE_4 _ _ _) (C := RX1) (T := TX1) (N := 4) rfl znX1_ranksHold_X1 3 (by decide) (List.mem_of_getElem? (i := 6) rfl) rfl dX1_ranksHold_51 ?_
      refine lv_iload_n hx hb dX1_ranksHold_54 rfl (lv_at hl 1 rfl) ?_
      obtain ⟨q55, h⟩ := h
      refine zald hF hSt hH 20 (by decide) rfl (zE_20 _ _ _) q55 dX1_ranksHold_55 ?_
      refine lv_icmp_eq (tgt := 61) hx hb dX1_ranksHold_56 (by decide) (fun q56 => ?_) (fun q56 => ?_)
      · have h := h.1 q56
        exact wX1_ranksHold_b61 hF hSt hret hag16 x1 M47 H locs ls hH (lv_sub hl [0, 1] rfl) h
      · have h := h.2 q56
        refine lv_iconst (v := (0 : Int32)) hx hb dX1_ranksHold_59 (by decide) ?_
        exact hret _ _ _ _ _ _ dX1_ranksHold_60 h hH
def pX1_ranksHold_L16 (post : Int32 → zM → Prop) (x1 : Int32) (M : zM) : Prop :=
  ∃ I : Nat → Int32 → zM → Prop, (∃ n, I n x1 M) ∧ ∀ n x1 M, I n x1 M → pX1_ranksHold_b16 post (fun x1 M => ∃ k, k < n ∧ I k x1 M) x1 M
set_option maxHeartbeats 4000000 in
theorem wX1_ranksHold_L16 {post : Int32 → zM → Prop}  (hF : CallFix p m c cX1_ranksHold 2 s args wsX1_ranksHold RX1) (hSt : zSt G s) (hret : zRz p l e ({ frames := 4, cells := 0, slots := 0, locals := 102 } : Room) s m args below meth c Q cX1_ranksHold G true O post) (x1 : Int32) (M : zM) (H : Heap) (locs : List Loc) (ls : Array Slot) (hH : zH G true s H locs M O) (hl : lv_has ls 2 [(0, .ref (G.1 4)), (1, .int x1)]) (h : pX1_ranksHold_L16 post x1 M) : W p l e ({ frames := 4, cells := 0, slots := 0, locals := 102 } : Room) s m args below meth c H locs 0 0 Q (F0 m 16 ls []) := by
  obtain ⟨I, ⟨n, hI⟩, hs⟩ := h
  have key : ∀ (n : Nat) (x1 : Int32) (M : zM) (H : Heap) (locs : List Loc) (ls : Array Slot), I n x1 M → zH G true s H locs M O → lv_has ls 2 [(0, .ref (G.1 4)), (1, .int x1)] → W p l e ({ frames := 4, cells := 0, slots := 0, locals := 102 } : Room) s m args below meth c H locs 0 0 Q (F0 m 16 ls []) := by
    intro n
    induction n using Nat.strongRecOn with
    | _ n ih =>
      intro x1 M H locs ls hI hH hl
      exact wX1_ranksHold_b16 hF hSt hret (fun x1 M H locs ls h hH hl => by obtain ⟨k, hk, hI⟩ := h; exact ih k hk x1 M H locs ls hI hH hl) x1 M H locs ls hH hl (hs n x1 M hI)
  exact key n x1 M H locs ls hI hH hl
def pX1_ranksHold (M : zM)  (post : Int32 → zM → Prop) : Prop :=
  pX2_spreadVectors M (M.1 1 5) (fun M11 => pX1_ranksHold_L16 post (1 : Int32) M11)
set_option maxHeartbeats 4000000 in
set_option maxRecDepth 100000 in
theorem wX1_ranksHold {M : zM} {post : Int32 → zM → Prop} (hF : CallFix p m c cX1_ranksHold 2 s args wsX1_ranksHold RX1) (hSt : zSt G s) (hret : zRz p l e ({ frames := 4, cells := 0, slots := 0, locals := 102 } : Room) s m args below meth c Q cX1_ranksHold G true O post)  (H : Heap) (locs : List Loc) (ls : Array Slot) (hH : zH G true s H locs M O) (hl : lv_has ls 2 [(0, .ref (G.1 4))]) (h : pX1_ranksHold M  post) : W p l e ({ frames := 4, cells := 0, slots := 0, locals := 102 } : Room) s m args below meth c H locs 0 0 Q (F0 m 0 ls []) := by
  obtain ⟨hx, hb, hml, hown, hts⟩ := id hF
  unfold pX1_ranksHold at h
  refine lv_aload_n hx hb dX1_ranksHold_0 rfl (lv_at hl 0 rfl) ?_
  refine zget (v := .ref (G.1 1)) hF hSt hH 4 (by decide) rfl (zE_4 _ _ _) (C := RX1) (T := TX1) (N := 4) rfl znX1_ranksHold_X1 0 (by decide) (List.mem_of_getElem? (i := 1) rfl) rfl dX1_ranksHold_1 ?_
  refine lv_aload_n hx hb dX1_ranksHold_4 rfl (lv_at hl 0 rfl) ?_
  refine zget (v := .ref (G.1 1)) hF hSt hH 4 (by decide) rfl (zE_4 _ _ _) (C := RX1) (T := TX1) (N := 4) rfl znX1_ranksHold_X1 0 (by decide) (List.mem_of_getElem? (i := 1) rfl) rfl dX1_ranksHold_5 ?_
  refine zget (v := .int (M.1 1 5)) hF hSt hH 1 (by decide) rfl (zE_1 _ _ _) (C := RX2) (T := TX2) (N := 16) rfl znX1_ranksHold_X2 5 (by decide) (List.mem_of_getElem? (i := 2) rfl) rfl dX1_ranksHold_8 ?_
  refine zcallv hH (va_runV (As := [.int (M.1 1 5)]) (rest := []) hF (kX2_spreadVectors l G M O (M.1 1 5) _ h) (cwV 1 hts gX1_ranksHold_X2_spreadVectors rfl rfl rfl ⟨rfl, zdX2_spreadVectors⟩ ⟨Nat.le_of_ble_eq_true rfl, Nat.le_of_ble_eq_true rfl⟩) (zpreV hSt hH 1 (by decide) rfl (zE_1 _ _ _) (q := (RX2, TX2, 16)) rfl [.int (M.1 1 5)]) rfl rfl hl.1 rfl (lv_room (Nat.le_of_ble_eq_true rfl)) dX1_ranksHold_11 ⟨Nat.zero_le _, Nat.zero_le _⟩) (fun M11 H locs h hH => ?_)
  refine lv_iconst (v := (1 : Int32)) hx hb dX1_ranksHold_14 (by decide) ?_
  refine lv_istore_n (lv' := [(1, .int (1 : Int32)), (0, .ref (G.1 4))]) hx hb dX1_ranksHold_15 rfl hl (by decide) rfl (fun ls hl => ?_)
  exact wX1_ranksHold_L16 hF hSt hret (1 : Int32) M11 H locs ls hH (lv_sub hl [1, 0] rfl) h
set_option maxRecDepth 100000 in
theorem kX1_ranksHold (l : Launch) (G : zG) (M O : zM)  (post : Int32 → zM → Prop) (h : pX1_ranksHold M  post) : Met l yX1_ranksHold wsX1_ranksHold ({ frames := 4, cells := 0, slots := 0, locals := 102 } : Room) (zPc G true M O [.ref (G.1 4)]) (va_Qi post (zB G true O) (zAA G)) 0 0 (zAA G) :=
  zmet_z (by decide) rfl (Nat.le_of_ble_eq_true rfl) (fun hF hSt hret H locs ls hH hl => wX1_ranksHold hF hSt hret  H locs ls hH hl h)
end
