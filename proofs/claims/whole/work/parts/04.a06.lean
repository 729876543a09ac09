theorem znX5_key_X5 : ∀ w ∈ wsX50, w ∈ wsX5_key := fun _ h => List.mem_cons_of_mem _ (List.mem_append_left _ (List.mem_append_left _ (List.mem_append_right _ h)))
theorem znX5_key_X2 : ∀ w ∈ wsX20, w ∈ wsX5_key := fun _ h => List.mem_cons_of_mem _ (List.mem_append_left _ (List.mem_append_right _ h))
theorem znX5_key_X3 : ∀ w ∈ wsX30, w ∈ wsX5_key := fun _ h => List.mem_cons_of_mem _ (List.mem_append_right _ h)
theorem zdX5_key : yX5_key.cls ≠ "java/lang/invoke/MethodHandle" ∧ yX5_key.cls ≠ "java/lang/invoke/VarHandle" ∧ (parseMethodDescriptor yX5_key.desc).map (fun d => d.parameters.length) = some 3 := by decide +kernel
-- MixingRelays key(III)I
section
variable {p : Program} {l : Launch} {e : Env} {s : State} {m : MethodId} {args : Array Value} {below : List Frame} {meth : Method} {c : Code} {Q : State → Prop} {G : zG} {O : zM}
def pX5_key_b51 (post : Int32 → zM → Prop) (M : zM) : Prop :=
  post (-1 : Int32) M
set_option maxHeartbeats 4000000 in
set_option maxRecDepth 100000 in
theorem wX5_key_b51 {post : Int32 → zM → Prop}  (hF : CallFix p m c cX5_key 6 s args wsX5_key RX5) (hSt : zSt G s) (hret : zRi p l e ({ frames := 5, cells := 0, slots := 0, locals := 123 } : Room) s m args below meth c Q cX5_key G true O post) (M : zM) (H : Heap) (locs : List Loc) (ls : Array Slot) (hH : zH G true s H locs M O) (hl : lv_has ls 6 []) (h : pX5_key_b51 post M) : W p l e ({ frames := 5, cells := 0, slots := 0, locals := 123 } : Room) s m args below meth c H locs 0 0 Q (F0 m 51 ls []) := by
  obtain ⟨hx, hb, hml, hown, hts⟩ := id hF
  unfold pX5_key_b51 at h
  refine lv_iconst (v := (-1 : Int32)) hx hb dX5_key_51 (by decide) ?_
  exact hret _ _ _ _ _ _ dX5_key_52 h hH
def pX5_key_b14 (post : Int32 → zM → Prop) (x1 : Int32) (x2 : Int32) (x3 : Int32) (t0 : Int32) (M : zM) : Prop :=
  (t0 = 0 → pX3_rankNow M x1 (fun r29 M29 => pX3_worksOut M29 x2 (fun r39 => (r39 = 0 → pX5_key_b51 post M29) ∧ (¬ (r39 = 0) → (x3 < r29 → pX3_keyNumber M29 x2 x3 (fun r59 => post r59 M29)) ∧ (¬ (x3 < r29) → pX5_key_b51 post M29))))) ∧ (¬ (t0 = 0) → post t0 M)
set_option maxHeartbeats 4000000 in
set_option maxRecDepth 100000 in
theorem wX5_key_b14 {post : Int32 → zM → Prop}  (hF : CallFix p m c cX5_key 6 s args wsX5_key RX5) (hSt : zSt G s) (hret : zRi p l e ({ frames := 5, cells := 0, slots := 0, locals := 123 } : Room) s m args below meth c Q cX5_key G true O post) (x1 : Int32) (x2 : Int32) (x3 : Int32) (t0 : Int32) (M : zM) (H : Heap) (locs : List Loc) (ls : Array Slot) (hH : zH G true s H locs M O) (hl : lv_has ls 6 [(0, .ref (G.1 0)), (1, .int x1), (2, .int x2), (3, .int x3)]) (h : pX5_key_b14 post x1 x2 x3 t0 M) : W p l e ({ frames := 5, cells := 0, slots := 0, locals := 123 } : Room) s m args below meth c H locs 0 0 Q (F0 m 14 ls [.int t0]) := by
  obtain ⟨hx, hb, hml, hown, hts⟩ := id hF
  unfold pX5_key_b14 at h
  refine lv_istore (lv' := [(4, .int t0), (0, .ref (G.1 0)), (1, .int x1), (2, .int x2), (3, .int x3)]) hx hb dX5_key_14 hl (by decide) rfl (fun ls hl => ?_)
  refine lv_iload hx hb dX5_key_16 (lv_at hl 0 rfl) ?_
  refine lv_if_eq (tgt := 24) hx hb dX5_key_18 (by decide) (fun q18 => ?_) (fun q18 => ?_)
  · have h := h.1 q18
    refine lv_aload_n hx hb dX5_key_24 rfl (lv_at hl 1 rfl) ?_
    refine zget (v := .ref (G.1 3)) hF hSt hH 0 (by decide) rfl (zE_0 _ _ _) (C := RX5) (T := TX5) (N := 5) rfl znX5_key_X5 2 (by decide) (List.mem_of_getElem? (i := 1) rfl) rfl dX5_key_25 ?_
    refine lv_iload_n hx hb dX5_key_28 rfl (lv_at hl 2 rfl) ?_
    refine zcalli hH (va_runV (As := [.int x1]) (rest := []) hF (kX3_rankNow l G M O x1 _ h) (cwV 1 hts gX5_key_X3_rankNow rfl rfl rfl ⟨rfl, zdX3_rankNow⟩ ⟨Nat.le_of_ble_eq_true rfl, Nat.le_of_ble_eq_true rfl⟩) (zpreV hSt hH 3 (by decide) rfl (zE_3 _ _ _) (q := (RX3, TX3, 4)) rfl [.int x1]) rfl rfl hl.1 rfl (lv_room (Nat.le_of_ble_eq_true rfl)) dX5_key_29 ⟨Nat.zero_le _, Nat.zero_le _⟩) (fun r29 M29 H locs h hH => ?_)
    refine lv_istore (lv' := [(5, .int r29), (4, .int t0), (0, .ref (G.1 0)), (1, .int x1), (2, .int x2), (3, .int x3)]) hx hb dX5_key_32 hl (by decide) rfl (fun ls hl => ?_)
    refine lv_aload_n hx hb dX5_key_34 rfl (lv_at hl 2 rfl) ?_
    refine zget (v := .ref (G.1 3)) hF hSt hH 0 (by decide) rfl (zE_0 _ _ _) (C := RX5) (T := TX5) (N := 5) rfl znX5_key_X5 2 (by decide) (List.mem_of_getElem? (i := 1) rfl) rfl dX5_key_35 ?_
    refine lv_iload_n hx hb dX5_key_38 rfl (lv_at hl 4 rfl) ?_
    refine zcalliP hH (va_runV (As := [.int x2]) (rest := []) hF (kX3_worksOut l G M29 O x2 _ h) (cwV 1 hts gX5_key_X3_worksOut rfl rfl rfl ⟨rfl, zdX3_worksOut⟩ ⟨Nat.le_of_ble_eq_true rfl, Nat.le_of_ble_eq_true rfl⟩) (zpreV hSt hH 3 (by decide) rfl (zE_3 _ _ _) (q := (RX3, TX3, 4)) rfl [.int x2]) rfl rfl hl.1 rfl (lv_room (Nat.le_of_ble_eq_true rfl)) dX5_key_39 ⟨Nat.zero_le _, Nat.zero_le _⟩) (fun r39 H locs h hH => ?_)
    refine lv_if_eq (tgt := 51) hx hb dX5_key_42 (by decide) (fun q42 => ?_) (fun q42 => ?_)
    · have h := h.1 q42
      exact wX5_key_b51 hF hSt hret M29 H locs ls hH (lv_sub hl [] rfl) h
    · have h := h.2 q42
      refine lv_iload_n hx hb dX5_key_45 rfl (lv_at hl 5 rfl) ?_
      refine lv_iload hx hb dX5_key_46 (lv_at hl 0 rfl) ?_
      refine lv_icmp_lt (tgt := 53) hx hb dX5_key_48 (by decide) (fun q48 => ?_) (fun q48 => ?_)
      · have h := h.1 q48
        refine lv_aload_n hx hb dX5_key_53 rfl (lv_at hl 2 rfl) ?_
        refine zget (v := .ref (G.1 3)) hF hSt hH 0 (by decide) rfl (zE_0 _ _ _) (C := RX5) (T := TX5) (N := 5) rfl znX5_key_X5 2 (by decide) (List.mem_of_getElem? (i := 1) rfl) rfl dX5_key_54 ?_
        refine lv_iload_n hx hb dX5_key_57 rfl (lv_at hl 4 rfl) ?_
        refine lv_iload_n hx hb dX5_key_58 rfl (lv_at hl 5 rfl) ?_
        refine zcalliP hH (va_runV (As := [.int x2, .int x3]) (rest := []) hF (kX3_keyNumber l G M29 O x2 x3 _ h) (cwV 2 hts gX5_key_X3_keyNumber rfl rfl rfl ⟨rfl, zdX3_keyNumber⟩ ⟨Nat.le_of_ble_eq_true rfl, Nat.le_of_ble_eq_true rfl⟩) (zpreV hSt hH 3 (by decide) rfl (zE_3 _ _ _) (q := (RX3, TX3, 4)) rfl [.int x2, .int x3]) rfl rfl hl.1 rfl (lv_room (Nat.le_of_ble_eq_true rfl)) dX5_key_59 ⟨Nat.zero_le _, Nat.zero_le _⟩) (fun r59 H locs h hH => ?_)
        exact hret _ _ _ _ _ _ dX5_key_62 h hH
      · have h := h.2 q48
        exact wX5_key_b51 hF hSt hret M29 H locs ls hH (lv_sub hl [] rfl) h
  · have h := h.2 q18
    refine lv_iload hx hb dX5_key_21 (lv_at hl 0 rfl) ?_
    exact hret _ _ _ _ _ _ dX5_key_23 h hH
def pX5_key (M : zM) (x1 : Int32) (x2 : Int32) (x3 : Int32) (post : Int32 → zM → Prop) : Prop :=
  (0 ≤ x3 → pX5_refusalOf_ M x1 x2 (fun r11 => pX5_key_b14 post x1 x2 x3 r11 M)) ∧ (¬ (0 ≤ x3) → pX5_key_b14 post x1 x2 x3 (-1 : Int32) M)
set_option maxHeartbeats 4000000 in
set_option maxRecDepth 100000 in
theorem wX5_key {M : zM} {post : Int32 → zM → Prop} (hF : CallFix p m c cX5_key 6 s args wsX5_key RX5) (hSt : zSt G s) (hret : zRi p l e ({ frames := 5, cells := 0, slots := 0, locals := 123 } : Room) s m args below meth c Q cX5_key G true O post) (x1 : Int32) (x2 : Int32) (x3 : Int32) (H : Heap) (locs : List Loc) (ls : Array Slot) (hH : zH G true s H locs M O) (hl : lv_has ls 6 [(0, .ref (G.1 0)), (1, .int x1), (2, .int x2), (3, .int x3)]) (h : pX5_key M x1 x2 x3 post) : W p l e ({ frames := 5, cells := 0, slots := 0, locals := 123 } : Room) s m args below meth c H locs 0 0 Q (F0 m 0 ls []) := by
  obtain ⟨hx, hb, hml, hown, hts⟩ := id hF
  unfold pX5_key at h
  refine lv_iload_n hx hb dX5_key_0 rfl (lv_at hl 3 rfl) ?_
  refine lv_if_ge (tgt := 8) hx hb dX5_key_1 (by decide) (fun q1 => ?_) (fun q1 => ?_)
  · have h := h.1 q1
    refine lv_aload_n hx hb dX5_key_8 rfl (lv_at hl 0 rfl) ?_
    refine lv_iload_n hx hb dX5_key_9 rfl (lv_at hl 1 rfl) ?_
    refine lv_iload_n hx hb dX5_key_10 rfl (lv_at hl 2 rfl) ?_
    refine zcalliP hH (va_runV (As := [.int x1, .int x2]) (rest := []) hF (kX5_refusalOf_ l G M O x1 x2 _ h) (cwV 2 hts gX5_key_X5_refusalOf_ rfl rfl rfl ⟨rfl, zdX5_refusalOf_⟩ ⟨Nat.le_of_ble_eq_true rfl, Nat.le_of_ble_eq_true rfl⟩) (zpreV hSt hH 0 (by decide) rfl (zE_0 _ _ _) (q := (RX5, TX5, 5)) rfl [.int x1, .int x2]) rfl rfl hl.1 rfl (lv_room (Nat.le_of_ble_eq_true rfl)) dX5_key_11 ⟨Nat.zero_le _, Nat.zero_le _⟩) (fun r11 H locs h hH => ?_)
    exact wX5_key_b14 hF hSt hret x1 x2 x3 r11 M H locs ls hH (lv_sub hl [0, 1, 2, 3] rfl) h
  · have h := h.2 q1
    refine lv_iconst (v := (-1 : Int32)) hx hb dX5_key_4 (by decide) ?_
    refine lv_goto (tgt := 14) hx hb dX5_key_5 (by decide) ?_
    exact wX5_key_b14 hF hSt hret x1 x2 x3 (-1 : Int32) M H locs ls hH (lv_sub hl [0, 1, 2, 3] rfl) h
set_option maxRecDepth 100000 in
theorem kX5_key (l : Launch) (G : zG) (M O : zM) (x1 : Int32) (x2 : Int32) (x3 : Int32) (post : Int32 → zM → Prop) (h : pX5_key M x1 x2 x3 post) : Met l yX5_key wsX5_key ({ frames := 5, cells := 0, slots := 0, locals := 123 } : Room) (zPc G true M O [.ref (G.1 0), .int x1, .int x2, .int x3]) (va_Qi post (zB G true O) (zAA G)) 0 0 (zAA G) :=
  zmet_i (by decide) rfl (Nat.le_of_ble_eq_true rfl) (fun hF hSt hret H locs ls hH hl => wX5_key hF hSt hret x1 x2 x3 H locs ls hH hl h)
end
theorem znX3_bytesFor_X3 : ∀ w ∈ wsX30, w ∈ wsX3_bytesFor := fun _ h => List.mem_cons_of_mem _ (List.mem_append_left _ (List.mem_append_right _ h))
theorem znX3_bytesFor_X2 : ∀ w ∈ wsX20, w ∈ wsX3_bytesFor := fun _ h => List.mem_cons_of_mem _ (List.mem_append_right _ h)
theorem zdX3_bytesFor : yX3_bytesFor.cls ≠ "java/lang/invoke/MethodHandle" ∧ yX3_bytesFor.cls ≠ "java/lang/invoke/VarHandle" ∧ (parseMethodDescriptor yX3_bytesFor.desc).map (fun d => d.parameters.length) = some 1 := by decide +kernel
-- MixingRelays$Span bytesFor(I)J
section
variable {p : Program} {l : Launch} {e : Env} {s : State} {m : MethodId} {args : Array Value} {below : List Frame} {meth : Method} {c : Code} {Q : State → Prop} {G : zG} {O : zM}
def pX3_bytesFor_b5 (M : zM) (post : Int64 → Prop) (ag5 : Int32 → Int64 → Int32 → Prop) (x1 : Int32) (x2 : Int64) (x4 : Int32) : Prop :=
  ((M.1 3 3) ≤ x4 → post x2) ∧ (¬ ((M.1 3 3) ≤ x4) → vp_in x4 4 ∧ vp_in (M.1 18 x4.toNatClampNeg) 30 ∧ pX3_keyNumber M x1 x4 (fun r34 => pX5_scaled (M.2 15 ((M.1 18 x4.toNatClampNeg)).toNatClampNeg) r34 (fun r37 => ag5 x1 (x2 ^^^ r37) (x4 + (1 : Int32)))))
set_option maxHeartbeats 4000000 in
set_option maxRecDepth 100000 in
theorem wX3_bytesFor_b5 {M : zM} {post : Int64 → Prop} {ag5 : Int32 → Int64 → Int32 → Prop} (hF : CallFix p m c cX3_bytesFor 5 s args wsX3_bytesFor RX3) (hSt : zSt G s) (hret : zRl p l e ({ frames := 2, cells := 0, slots := 0, locals := 44 } : Room) s m args below meth c Q cX3_bytesFor G true O (fun r M1 => M1 = M ∧ post r)) (hag5 : ∀ (x1 : Int32) (x2 : Int64) (x4 : Int32) (H : Heap) (locs : List Loc) (ls : Array Slot), ag5 x1 x2 x4 → zH G true s H locs M O → lv_has ls 5 [(0, .ref (G.1 3)), (1, .int x1), (2, .long x2), (4, .int x4)] → W p l e ({ frames := 2, cells := 0, slots := 0, locals := 44 } : Room) s m args below meth c H locs 0 0 Q (F0 m 5 ls [])) (x1 : Int32) (x2 : Int64) (x4 : Int32) (H : Heap) (locs : List Loc) (ls : Array Slot) (hH : zH G true s H locs M O) (hl : lv_has ls 5 [(0, .ref (G.1 3)), (1, .int x1), (2, .long x2), (4, .int x4)]) (h : pX3_bytesFor_b5 M post ag5 x1 x2 x4) : W p l e ({ frames := 2, cells := 0, slots := 0, locals := 44 } : Room) s m args below meth c H locs 0 0 Q (F0 m 5 ls []) := by
  obtain ⟨hx, hb, hml, hown, hts⟩ := id hF
  unfold pX3_bytesFor_b5 at h
  refine lv_iload hx hb dX3_bytesFor_5 (lv_at hl 3 rfl) ?_
  refine lv_aload_n hx hb dX3_bytesFor_7 rfl (lv_at hl 0 rfl) ?_
  refine zget (v := .int (M.1 3 3)) hF hSt hH 3 (by decide) rfl (zE_3 _ _ _) (C := RX3) (T := TX3) (N := 4) rfl znX3_bytesFor_X3 3 (by decide) (List.mem_of_getElem? (i := 1) rfl) rfl dX3_bytesFor_8 ?_
  refine lv_icmp_ge (tgt := 48) hx hb dX3_bytesFor_11 (by decide) (fun q11 => ?_) (fun q11 => ?_)
  · have h := h.1 q11
    refine lv_lload_n hx hb dX3_bytesFor_48 rfl (lv_at hl 2 rfl) ?_
    exact hret _ _ _ _ _ _ dX3_bytesFor_49 ⟨rfl, h⟩ hH
  · have h := h.2 q11
    refine lv_lload_n hx hb dX3_bytesFor_14 rfl (lv_at hl 2 rfl) ?_
    refine lv_aload_n hx hb dX3_bytesFor_15 rfl (lv_at hl 0 rfl) ?_
    refine zget (v := .ref (G.1 1)) hF hSt hH 3 (by decide) rfl (zE_3 _ _ _) (C := RX3) (T := TX3) (N := 4) rfl znX3_bytesFor_X3 0 (by decide) (List.mem_of_getElem? (i := 2) rfl) rfl dX3_bytesFor_16 ?_
    refine zget (v := .ref (G.1 15)) hF hSt hH 1 (by decide) rfl (zE_1 _ _ _) (C := RX2) (T := TX2) (N := 16) rfl znX3_bytesFor_X2 15 (by decide) (List.mem_of_getElem? (i := 3) rfl) rfl dX3_bytesFor_19 ?_
    refine lv_aload_n hx hb dX3_bytesFor_22 rfl (lv_at hl 0 rfl) ?_
    refine zget (v := .ref (G.1 18)) hF hSt hH 3 (by decide) rfl (zE_3 _ _ _) (C := RX3) (T := TX3) (N := 4) rfl znX3_bytesFor_X3 2 (by decide) (List.mem_of_getElem? (i := 4) rfl) rfl dX3_bytesFor_23 ?_
    refine lv_iload hx hb dX3_bytesFor_26 (lv_at hl 3 rfl) ?_
    obtain ⟨q28, h⟩ := h
    refine zald hF hSt hH 18 (by decide) rfl (zE_18 _ _ _) q28 dX3_bytesFor_28 ?_
    obtain ⟨q29, h⟩ := h
    refine zlald hF hSt hH 15 (by decide) rfl (zE_15 _ _ _) q29 dX3_bytesFor_29 ?_
    refine lv_aload_n hx hb dX3_bytesFor_30 rfl (lv_at hl 0 rfl) ?_
    refine lv_iload_n hx hb dX3_bytesFor_31 rfl (lv_at hl 1 rfl) ?_
    refine lv_iload hx hb dX3_bytesFor_32 (lv_at hl 3 rfl) ?_
    refine zcalliP hH (va_runV (As := [.int x1, .int x4]) (rest := [.long (M.2 15 ((M.1 18 x4.toNatClampNeg)).toNatClampNeg), .long x2]) hF (kX3_keyNumber l G M O x1 x4 _ h) (cwV 2 hts gX3_bytesFor_X3_keyNumber rfl rfl rfl ⟨rfl, zdX3_keyNumber⟩ ⟨Nat.le_of_ble_eq_true rfl, Nat.le_of_ble_eq_true rfl⟩) (zpreV hSt hH 3 (by decide) rfl (zE_3 _ _ _) (q := (RX3, TX3, 4)) rfl [.int x1, .int x4]) rfl rfl hl.1 rfl (lv_room (Nat.le_of_ble_eq_true rfl)) dX3_bytesFor_34 ⟨Nat.zero_le _, Nat.zero_le _⟩) (fun r34 H locs h hH => ?_)
    refine zcalllP hH (va_runSN (As := [.long (M.2 15 ((M.1 18 x4.toNatClampNeg)).toNatClampNeg), .int r34]) (rest := [.long x2]) hF (kX5_scaled l G M O (M.2 15 ((M.1 18 x4.toNatClampNeg)).toNatClampNeg) r34 _ h) ⟨va_cnB 2 hts gX3_bytesFor_X5_scaled_n72 rfl rfl rfl (hSt.2.2.1 _ zNest_X3_72) (hts _ (List.mem_of_getElem? (i := 12) rfl)) zdX5_scaled ⟨Nat.le_of_ble_eq_true rfl, Nat.le_of_ble_eq_true rfl⟩, hts _ (List.mem_of_getElem? (i := 14) rfl), trivial⟩ (zpreS hSt hH [.long (M.2 15 ((M.1 18 x4.toNatClampNeg)).toNatClampNeg), .int r34]) rfl rfl hl.1 rfl (lv_room (Nat.le_of_ble_eq_true rfl)) dX3_bytesFor_37 ⟨Nat.zero_le _, Nat.zero_le _⟩) (fun r37 H locs h hH => ?_)
    refine lv_lxor hx hb dX3_bytesFor_40 ?_
    refine lv_lstore_n (lv' := [(2, .long (x2 ^^^ r37)), (0, .ref (G.1 3)), (1, .int x1), (4, .int x4)]) hx hb dX3_bytesFor_41 rfl hl (by decide) rfl (fun ls hl => ?_)
    refine lv_iinc (v := (x4 + (1 : Int32))) (lv' := [(4, .int (x4 + (1 : Int32))), (2, .long (x2 ^^^ r37)), (0, .ref (G.1 3)), (1, .int x1)]) hx hb dX3_bytesFor_42 hl (k := 3) rfl rfl (by decide) rfl (fun ls hl => ?_)
    refine lv_goto (tgt := 5) hx hb dX3_bytesFor_45 (by decide) ?_
    exact hag5 x1 (x2 ^^^ r37) (x4 + (1 : Int32)) H locs ls h hH (lv_sub hl [2, 3, 1, 0] rfl)
def pX3_bytesFor_L5 (M : zM) (post : Int64 → Prop) (x1 : Int32) (x2 : Int64) (x4 : Int32) : Prop :=
  ∃ I : Nat → Int32 → Int64 → Int32 → Prop, (∃ n, I n x1 x2 x4) ∧ ∀ n x1 x2 x4, I n x1 x2 x4 → pX3_bytesFor_b5 M post (fun x1 x2 x4 => ∃ k, k < n ∧ I k x1 x2 x4) x1 x2 x4
set_option maxHeartbeats 4000000 in
theorem wX3_bytesFor_L5 {M : zM} {post : Int64 → Prop}  (hF : CallFix p m c cX3_bytesFor 5 s args wsX3_bytesFor RX3) (hSt : zSt G s) (hret : zRl p l e ({ frames := 2, cells := 0, slots := 0, locals := 44 } : Room) s m args below meth c Q cX3_bytesFor G true O (fun r M1 => M1 = M ∧ post r)) (x1 : Int32) (x2 : Int64) (x4 : Int32) (H : Heap) (locs : List Loc) (ls : Array Slot) (hH : zH G true s H locs M O) (hl : lv_has ls 5 [(0, .ref (G.1 3)), (1, .int x1), (2, .long x2), (4, .int x4)]) (h : pX3_bytesFor_L5 M post x1 x2 x4) : W p l e ({ frames := 2, cells := 0, slots := 0, locals := 44 } : Room) s m args below meth c H locs 0 0 Q (F0 m 5 ls []) := by
  obtain ⟨I, ⟨n, hI⟩, hs⟩ := h
  have key : ∀ (n : Nat) (x1 : Int32) (x2 : Int64) (x4 : Int32) (H : Heap) (locs : List Loc) (ls : Array Slot), I n x1 x2 x4 → zH G true s H locs M O → lv_has ls 5 [(0, .ref (G.1 3)), (1, .int x1), (2, .long x2), (4, .int x4)] → W p l e ({ frames := 2, cells := 0, slots := 0, locals := 44 } : Room) s m args below meth c H locs 0 0 Q (F0 m 5 ls []) := by
    intro n
    induction n using Nat.strongRecOn with
    | _ n ih =>
      intro x1 x2 x4 H locs ls hI hH hl
      exact wX3_bytesFor_b5 hF hSt hret (fun x1 x2 x4 H locs ls h hH hl => by obtain ⟨k, hk, hI⟩ := h; exact ih k hk x1 x2 x4 H locs ls hI hH hl) x1 x2 x4 H locs ls hH hl (hs n x1 x2 x4 hI)
  exact key n x1 x2 x4 H locs ls hI hH hl
def pX3_bytesFor (M : zM) (x1 : Int32) (post : Int64 → Prop) : Prop :=
  pX3_bytesFor_L5 M post x1 (0 : Int64) (0 : Int32)
set_option maxHeartbeats 4000000 in
set_option maxRecDepth 100000 in
theorem wX3_bytesFor {M : zM} {post : Int64 → Prop} (hF : CallFix p m c cX3_bytesFor 5 s args wsX3_bytesFor RX3) (hSt : zSt G s) (hret : zRl p l e ({ frames := 2, cells := 0, slots := 0, locals := 44 } : Room) s m args below meth c Q cX3_bytesFor G true O (fun r M1 => M1 = M ∧ post r)) (x1 : Int32) (H : Heap) (locs : List Loc) (ls : Array Slot) (hH : zH G true s H locs M O) (hl : lv_has ls 5 [(0, .ref (G.1 3)), (1, .int x1)]) (h : pX3_bytesFor M x1 post) : W p l e ({ frames := 2, cells := 0, slots := 0, locals := 44 } : Room) s m args below meth c H locs 0 0 Q (F0 m 0 ls []) := by
  obtain ⟨hx, hb, hml, hown, hts⟩ := id hF
  unfold pX3_bytesFor at h
  refine lv_lconst (v := (0 : Int64)) hx hb dX3_bytesFor_0 (by decide) ?_
  refine lv_lstore_n (lv' := [(2, .long (0 : Int64)), (0, .ref (G.1 3)), (1, .int x1)]) hx hb dX3_bytesFor_1 rfl hl (by decide) rfl (fun ls hl => ?_)
  refine lv_iconst (v := (0 : Int32)) hx hb dX3_bytesFor_2 (by decide) ?_
  refine lv_istore (lv' := [(4, .int (0 : Int32)), (2, .long (0 : Int64)), (0, .ref (G.1 3)), (1, .int x1)]) hx hb dX3_bytesFor_3 hl (by decide) rfl (fun ls hl => ?_)
  exact wX3_bytesFor_L5 hF hSt hret x1 (0 : Int64) (0 : Int32) H locs ls hH (lv_sub hl [2, 3, 1, 0] rfl) h
set_option maxRecDepth 100000 in
theorem kX3_bytesFor (l : Launch) (G : zG) (M O : zM) (x1 : Int32) (post : Int64 → Prop) (h : pX3_bytesFor M x1 post) : Met l yX3_bytesFor wsX3_bytesFor ({ frames := 2, cells := 0, slots := 0, locals := 44 } : Room) (zPc G true M O [.ref (G.1 3), .int x1]) (va_Ql (fun r M1 => M1 = M ∧ post r) (zB G true O) (zAA G)) 0 0 (zAA G) :=
  zmet_l (by decide) rfl (Nat.le_of_ble_eq_true rfl) (fun hF hSt hret H locs ls hH hl => wX3_bytesFor hF hSt hret x1 H locs ls hH hl h)
end
theorem znX5_gets_X5 : ∀ w ∈ wsX50, w ∈ wsX5_gets := fun _ h => List.mem_cons_of_mem _ (List.mem_append_left _ (List.mem_append_left _ (List.mem_append_right _ h)))
theorem znX5_gets_X2 : ∀ w ∈ wsX20, w ∈ wsX5_gets := fun _ h => List.mem_cons_of_mem _ (List.mem_append_left _ (List.mem_append_right _ h))
theorem znX5_gets_X3 : ∀ w ∈ wsX30, w ∈ wsX5_gets := fun _ h => List.mem_cons_of_mem _ (List.mem_append_right _ h)
theorem zdX5_gets : yX5_gets.cls ≠ "java/lang/invoke/MethodHandle" ∧ yX5_gets.cls ≠ "java/lang/invoke/VarHandle" ∧ (parseMethodDescriptor yX5_gets.desc).map (fun d => d.parameters.length) = some 2 := by decide +kernel
-- MixingRelays gets(II)J
section
variable {p : Program} {l : Launch} {e : Env} {s : State} {m : MethodId} {args : Array Value} {below : List Frame} {meth : Method} {c : Code} {Q : State → Prop} {G : zG} {O : zM}
def pX5_gets (M : zM) (x1 : Int32) (x2 : Int32) (post : Int64 → zM → Prop) : Prop :=
  pX5_refusalOf_ M x1 x2 (fun r3 => (r3 = 0 → pX3_rankNow M x1 (fun r16 M16 => pX3_worksOut M16 x2 (fun r25 => (¬ (r25 = 0) → pX2_spreadBytes M16  (fun M37 => pX3_bytesFor M37 x2 (fun r45 => post r45 M37))) ∧ (r25 = 0 → post (0 : Int64) M16)))) ∧ (¬ (r3 = 0) → post (0 : Int64) M))
set_option maxHeartbeats 4000000 in
set_option maxRecDepth 100000 in
theorem wX5_gets {M : zM} {post : Int64 → zM → Prop} (hF : CallFix p m c cX5_gets 3 s args wsX5_gets RX5) (hSt : zSt G s) (hret : zRl p l e ({ frames := 5, cells := 0, slots := 0, locals := 123 } : Room) s m args below meth c Q cX5_gets G true O post) (x1 : Int32) (x2 : Int32) (H : Heap) (locs : List Loc) (ls : Array Slot) (hH : zH G true s H locs M O) (hl : lv_has ls 3 [(0, .ref (G.1 0)), (1, .int x1), (2, .int x2)]) (h : pX5_gets M x1 x2 post) : W p l e ({ frames := 5, cells := 0, slots := 0, locals := 123 } : Room) s m args below meth c H locs 0 0 Q (F0 m 0 ls []) := by
  obtain ⟨hx, hb, hml, hown, hts⟩ := id hF
  unfold pX5_gets at h
  refine lv_aload_n hx hb dX5_gets_0 rfl (lv_at hl 0 rfl) ?_
  refine lv_iload_n hx hb dX5_gets_1 rfl (lv_at hl 1 rfl) ?_
  refine lv_iload_n hx hb dX5_gets_2 rfl (lv_at hl 2 rfl) ?_
  refine zcalliP hH (va_runV (As := [.int x1, .int x2]) (rest := []) hF (kX5_refusalOf_ l G M O x1 x2 _ h) (cwV 2 hts gX5_gets_X5_refusalOf_ rfl rfl rfl ⟨rfl, zdX5_refusalOf_⟩ ⟨Nat.le_of_ble_eq_true rfl, Nat.le_of_ble_eq_true rfl⟩) (zpreV hSt hH 0 (by decide) rfl (zE_0 _ _ _) (q := (RX5, TX5, 5)) rfl [.int x1, .int x2]) rfl rfl hl.1 rfl (lv_room (Nat.le_of_ble_eq_true rfl)) dX5_gets_3 ⟨Nat.zero_le _, Nat.zero_le _⟩) (fun r3 H locs h hH => ?_)
  refine lv_if_eq (tgt := 11) hx hb dX5_gets_6 (by decide) (fun q6 => ?_) (fun q6 => ?_)
  · have h := h.1 q6
    refine lv_aload_n hx hb dX5_gets_11 rfl (lv_at hl 0 rfl) ?_
    refine zget (v := .ref (G.1 3)) hF hSt hH 0 (by decide) rfl (zE_0 _ _ _) (C := RX5) (T := TX5) (N := 5) rfl znX5_gets_X5 2 (by decide) (List.mem_of_getElem? (i := 1) rfl) rfl dX5_gets_12 ?_
    refine lv_iload_n hx hb dX5_gets_15 rfl (lv_at hl 1 rfl) ?_
    refine zcalli hH (va_runV (As := [.int x1]) (rest := []) hF (kX3_rankNow l G M O x1 _ h) (cwV 1 hts gX5_gets_X3_rankNow rfl rfl rfl ⟨rfl, zdX3_rankNow⟩ ⟨Nat.le_of_ble_eq_true rfl, Nat.le_of_ble_eq_true rfl⟩) (zpreV hSt hH 3 (by decide) rfl (zE_3 _ _ _) (q := (RX3, TX3, 4)) rfl [.int x1]) rfl rfl hl.1 rfl (lv_room (Nat.le_of_ble_eq_true rfl)) dX5_gets_16 ⟨Nat.zero_le _, Nat.zero_le _⟩) (fun r16 M16 H locs h hH => ?_)
    refine lv_pop hx hb dX5_gets_19 rfl ?_
    refine lv_aload_n hx hb dX5_gets_20 rfl (lv_at hl 0 rfl) ?_
    refine zget (v := .ref (G.1 3)) hF hSt hH 0 (by decide) rfl (zE_0 _ _ _) (C := RX5) (T := TX5) (N := 5) rfl znX5_gets_X5 2 (by decide) (List.mem_of_getElem? (i := 1) rfl) rfl dX5_gets_21 ?_
    refine lv_iload_n hx hb dX5_gets_24 rfl (lv_at hl 2 rfl) ?_
    refine zcalliP hH (va_runV (As := [.int x2]) (rest := []) hF (kX3_worksOut l G M16 O x2 _ h) (cwV 1 hts gX5_gets_X3_worksOut rfl rfl rfl ⟨rfl, zdX3_worksOut⟩ ⟨Nat.le_of_ble_eq_true rfl, Nat.le_of_ble_eq_true rfl⟩) (zpreV hSt hH 3 (by decide) rfl (zE_3 _ _ _) (q := (RX3, TX3, 4)) rfl [.int x2]) rfl rfl hl.1 rfl (lv_room (Nat.le_of_ble_eq_true rfl)) dX5_gets_25 ⟨Nat.zero_le _, Nat.zero_le _⟩) (fun r25 H locs h hH => ?_)
    refine lv_if_ne (tgt := 33) hx hb dX5_gets_28 (by decide) (fun q28 => ?_) (fun q28 => ?_)
    · have h := h.1 q28
      refine lv_aload_n hx hb dX5_gets_33 rfl (lv_at hl 0 rfl) ?_
      refine zget (v := .ref (G.1 1)) hF hSt hH 0 (by decide) rfl (zE_0 _ _ _) (C := RX5) (T := TX5) (N := 5) rfl znX5_gets_X5 0 (by decide) (List.mem_of_getElem? (i := 2) rfl) rfl dX5_gets_34 ?_
      refine zcallv hH (va_runV (As := []) (rest := []) hF (kX2_spreadBytes l G M16 O _ h) (cwV 0 hts gX5_gets_X2_spreadBytes rfl rfl rfl ⟨rfl, zdX2_spreadBytes⟩ ⟨Nat.le_of_ble_eq_true rfl, Nat.le_of_ble_eq_true rfl⟩) (zpreV hSt hH 1 (by decide) rfl (zE_1 _ _ _) (q := (RX2, TX2, 16)) rfl []) rfl rfl hl.1 rfl (lv_room (Nat.le_of_ble_eq_true rfl)) dX5_gets_37 ⟨Nat.zero_le _, Nat.zero_le _⟩) (fun M37 H locs h hH => ?_)
      refine lv_aload_n hx hb dX5_gets_40 rfl (lv_at hl 0 rfl) ?_
      refine zget (v := .ref (G.1 3)) hF hSt hH 0 (by decide) rfl (zE_0 _ _ _) (C := RX5) (T := TX5) (N := 5) rfl znX5_gets_X5 2 (by decide) (List.mem_of_getElem? (i := 1) rfl) rfl dX5_gets_41 ?_
      refine lv_iload_n hx hb dX5_gets_44 rfl (lv_at hl 2 rfl) ?_
      refine zcalllP hH (va_runV (As := [.int x2]) (rest := []) hF (kX3_bytesFor l G M37 O x2 _ h) (cwV 1 hts gX5_gets_X3_bytesFor rfl rfl rfl ⟨rfl, zdX3_bytesFor⟩ ⟨Nat.le_of_ble_eq_true rfl, Nat.le_of_ble_eq_true rfl⟩) (zpreV hSt hH 3 (by decide) rfl (zE_3 _ _ _) (q := (RX3, TX3, 4)) rfl [.int x2]) rfl rfl hl.1 rfl (lv_room (Nat.le_of_ble_eq_true rfl)) dX5_gets_45 ⟨Nat.zero_le _, Nat.zero_le _⟩) (fun r45 H locs h hH => ?_)
      exact hret _ _ _ _ _ _ dX5_gets_48 h hH
    · have h := h.2 q28
      refine lv_lconst (v := (0 : Int64)) hx hb dX5_gets_31 (by decide) ?_
      exact hret _ _ _ _ _ _ dX5_gets_32 h hH
  · have h := h.2 q6
    refine lv_lconst (v := (0 : Int64)) hx hb dX5_gets_9 (by decide) ?_
    exact hret _ _ _ _ _ _ dX5_gets_10 h hH
set_option maxRecDepth 100000 in
theorem kX5_gets (l : Launch) (G : zG) (M O : zM) (x1 : Int32) (x2 : Int32) (post : Int64 → zM → Prop) (h : pX5_gets M x1 x2 post) : Met l yX5_gets wsX5_gets ({ frames := 5, cells := 0, slots := 0, locals := 123 } : Room) (zPc G true M O [.ref (G.1 0), .int x1, .int x2]) (va_Ql post (zB G true O) (zAA G)) 0 0 (zAA G) :=
  zmet_l (by decide) rfl (Nat.le_of_ble_eq_true rfl) (fun hF hSt hret H locs ls hH hl => wX5_gets hF hSt hret x1 x2 H locs ls hH hl h)
end
theorem znX3_lackNumber_X3 : ∀ w ∈ wsX30, w ∈ wsX3_lackNumber := fun _ h => List.mem_cons_of_mem _ (List.mem_append_right _ h)
theorem zdX3_lackNumber : yX3_lackNumber.cls ≠ "java/lang/invoke/MethodHandle" ∧ yX3_lackNumber.cls ≠ "java/lang/invoke/VarHandle" ∧ (parseMethodDescriptor yX3_lackNumber.desc).map (fun d => d.parameters.length) = some 2 := by decide +kernel
-- MixingRelays$Span lackNumber(II)I
section
variable {p : Program} {l : Launch} {e : Env} {s : State} {m : MethodId} {args : Array Value} {below : List Frame} {meth : Method} {c : Code} {Q : State → Prop} {G : zG} {O : zM}
def pX3_lackNumber_b82 (M : zM) (post : Int32 → Prop) (t0 : Int32) : Prop :=
  post t0
set_option maxHeartbeats 4000000 in
set_option maxRecDepth 100000 in
theorem wX3_lackNumber_b82 {M : zM} {post : Int32 → Prop}  (hF : CallFix p m c cX3_lackNumber 5 s args wsX3_lackNumber RX3) (hSt : zSt G s) (hret : zRi p l e ({ frames := 2, cells := 0, slots := 0, locals := 55 } : Room) s m args below meth c Q cX3_lackNumber G true O (fun r M1 => M1 = M ∧ post r)) (t0 : Int32) (H : Heap) (locs : List Loc) (ls : Array Slot) (hH : zH G true s H locs M O) (hl : lv_has ls 5 []) (h : pX3_lackNumber_b82 M post t0) : W p l e ({ frames := 2, cells := 0, slots := 0, locals := 55 } : Room) s m args below meth c H locs 0 0 Q (F0 m 82 ls [.int t0]) := by
  obtain ⟨hx, hb, hml, hown, hts⟩ := id hF
  unfold pX3_lackNumber_b82 at h
  exact hret _ _ _ _ _ _ dX3_lackNumber_82 ⟨rfl, h⟩ hH
def pX3_lackNumber_b55 (M : zM) (post : Int32 → Prop) (x2 : Int32) (x3 : Int32) (t0 : Int32) : Prop :=
  (¬ (x2 = x3) → vp_in x2 4 ∧ pX5_byteOf (M.2 17 x2.toNatClampNeg) x3 (fun r74 => pX5_product r74 t0 (fun r79 => pX3_lackNumber_b82 M post r79))) ∧ (x2 = x3 → pX3_lackNumber_b82 M post t0)
set_option maxHeartbeats 4000000 in
set_option maxRecDepth 100000 in
theorem wX3_lackNumber_b55 {M : zM} {post : Int32 → Prop}  (hF : CallFix p m c cX3_lackNumber 5 s args wsX3_lackNumber RX3) (hSt : zSt G s) (hret : zRi p l e ({ frames := 2, cells := 0, slots := 0, locals := 55 } : Room) s m args below meth c Q cX3_lackNumber G true O (fun r M1 => M1 = M ∧ post r)) (x2 : Int32) (x3 : Int32) (t0 : Int32) (H : Heap) (locs : List Loc) (ls : Array Slot) (hH : zH G true s H locs M O) (hl : lv_has ls 5 [(0, .ref (G.1 3)), (2, .int x2), (3, .int x3)]) (h : pX3_lackNumber_b55 M post x2 x3 t0) : W p l e ({ frames := 2, cells := 0, slots := 0, locals := 55 } : Room) s m args below meth c H locs 0 0 Q (F0 m 55 ls [.int t0]) := by
  obtain ⟨hx, hb, hml, hown, hts⟩ := id hF
  unfold pX3_lackNumber_b55 at h
  refine lv_istore (lv' := [(4, .int t0), (0, .ref (G.1 3)), (2, .int x2), (3, .int x3)]) hx hb dX3_lackNumber_55 hl (by decide) rfl (fun ls hl => ?_)
  refine lv_iload_n hx hb dX3_lackNumber_57 rfl (lv_at hl 2 rfl) ?_
  refine lv_iload_n hx hb dX3_lackNumber_58 rfl (lv_at hl 3 rfl) ?_
  refine lv_icmp_ne (tgt := 67) hx hb dX3_lackNumber_59 (by decide) (fun q59 => ?_) (fun q59 => ?_)
  · have h := h.1 q59
    refine lv_aload_n hx hb dX3_lackNumber_67 rfl (lv_at hl 1 rfl) ?_
    refine zget (v := .ref (G.1 17)) hF hSt hH 3 (by decide) rfl (zE_3 _ _ _) (C := RX3) (T := TX3) (N := 4) rfl znX3_lackNumber_X3 1 (by decide) (List.mem_of_getElem? (i := 1) rfl) rfl dX3_lackNumber_68 ?_
    refine lv_iload_n hx hb dX3_lackNumber_71 rfl (lv_at hl 2 rfl) ?_
    obtain ⟨q72, h⟩ := h
    refine zlald hF hSt hH 17 (by decide) rfl (zE_17 _ _ _) q72 dX3_lackNumber_72 ?_
    refine lv_iload_n hx hb dX3_lackNumber_73 rfl (lv_at hl 3 rfl) ?_
    refine zcalliP hH (va_runSN (As := [.long (M.2 17 x2.toNatClampNeg), .int x3]) (rest := []) hF (kX5_byteOf l G M O (M.2 17 x2.toNatClampNeg) x3 _ h) ⟨va_cnB 2 hts gX3_lackNumber_X5_byteOf_n68 rfl rfl rfl (hSt.2.2.1 _ zNest_X3_68) (hts _ (List.mem_of_getElem? (i := 7) rfl)) zdX5_byteOf ⟨Nat.le_of_ble_eq_true rfl, Nat.le_of_ble_eq_true rfl⟩, hts _ (List.mem_of_getElem? (i := 6) rfl), trivial⟩ (zpreS hSt hH [.long (M.2 17 x2.toNatClampNeg), .int x3]) rfl rfl hl.1 rfl (lv_room (Nat.le_of_ble_eq_true rfl)) dX3_lackNumber_74 ⟨Nat.zero_le _, Nat.zero_le _⟩) (fun r74 H locs h hH => ?_)
    refine lv_iload hx hb dX3_lackNumber_77 (lv_at hl 0 rfl) ?_
    refine zcalliP hH (va_runSN (As := [.int r74, .int t0]) (rest := []) hF (kX5_product l G M O r74 t0 _ h) ⟨va_cnB 2 hts gX3_lackNumber_X5_product_n90 rfl rfl rfl (hSt.2.2.1 _ zNest_X3_90) (hts _ (List.mem_of_getElem? (i := 7) rfl)) zdX5_product ⟨Nat.le_of_ble_eq_true rfl, Nat.le_of_ble_eq_true rfl⟩, hts _ (List.mem_of_getElem? (i := 17) rfl), trivial⟩ (zpreS hSt hH [.int r74, .int t0]) rfl rfl hl.1 rfl (lv_room (Nat.le_of_ble_eq_true rfl)) dX3_lackNumber_79 ⟨Nat.zero_le _, Nat.zero_le _⟩) (fun r79 H locs h hH => ?_)
    exact wX3_lackNumber_b82 hF hSt hret r79 H locs ls hH (lv_sub hl [] rfl) h
  · have h := h.2 q59
    refine lv_iload hx hb dX3_lackNumber_62 (lv_at hl 0 rfl) ?_
    refine lv_goto (tgt := 82) hx hb dX3_lackNumber_64 (by decide) ?_
    exact wX3_lackNumber_b82 hF hSt hret t0 H locs ls hH (lv_sub hl [] rfl) h
def pX3_lackNumber_b25 (M : zM) (post : Int32 → Prop) (x1 : Int32) (x2 : Int32) (t0 : Int32) : Prop :=
  (¬ (t0 = (-1 : Int32)) → (¬ (t0 = x1) → vp_in x1 4 ∧ pX5_byteOf (M.2 17 x1.toNatClampNeg) t0 (fun r49 => pX5_inverseOf r49 (fun r52 => pX3_lackNumber_b55 M post x2 t0 r52))) ∧ (t0 = x1 → pX3_lackNumber_b55 M post x2 t0 (1 : Int32))) ∧ (t0 = (-1 : Int32) → post (-1 : Int32))
set_option maxHeartbeats 4000000 in
set_option maxRecDepth 100000 in
theorem wX3_lackNumber_b25 {M : zM} {post : Int32 → Prop}  (hF : CallFix p m c cX3_lackNumber 5 s args wsX3_lackNumber RX3) (hSt : zSt G s) (hret : zRi p l e ({ frames := 2, cells := 0, slots := 0, locals := 55 } : Room) s m args below meth c Q cX3_lackNumber G true O (fun r M1 => M1 = M ∧ post r)) (x1 : Int32) (x2 : Int32) (t0 : Int32) (H : Heap) (locs : List Loc) (ls : Array Slot) (hH : zH G true s H locs M O) (hl : lv_has ls 5 [(0, .ref (G.1 3)), (1, .int x1), (2, .int x2)]) (h : pX3_lackNumber_b25 M post x1 x2 t0) : W p l e ({ frames := 2, cells := 0, slots := 0, locals := 55 } : Room) s m args below meth c H locs 0 0 Q (F0 m 25 ls [.int t0]) := by
  obtain ⟨hx, hb, hml, hown, hts⟩ := id hF
  unfold pX3_lackNumber_b25 at h
  refine lv_istore_n (lv' := [(3, .int t0), (0, .ref (G.1 3)), (1, .int x1), (2, .int x2)]) hx hb dX3_lackNumber_25 rfl hl (by decide) rfl (fun ls hl => ?_)
  refine lv_iload_n hx hb dX3_lackNumber_26 rfl (lv_at hl 0 rfl) ?_
  refine lv_iconst (v := (-1 : Int32)) hx hb dX3_lackNumber_27 (by decide) ?_
  refine lv_icmp_ne (tgt := 33) hx hb dX3_lackNumber_28 (by decide) (fun q28 => ?_) (fun q28 => ?_)
  · have h := h.1 q28
    refine lv_iload_n hx hb dX3_lackNumber_33 rfl (lv_at hl 0 rfl) ?_
    refine lv_iload_n hx hb dX3_lackNumber_34 rfl (lv_at hl 2 rfl) ?_
    refine lv_icmp_ne (tgt := 42) hx hb dX3_lackNumber_35 (by decide) (fun q35 => ?_) (fun q35 => ?_)
    · have h := h.1 q35
      refine lv_aload_n hx hb dX3_lackNumber_42 rfl (lv_at hl 1 rfl) ?_
      refine zget (v := .ref (G.1 17)) hF hSt hH 3 (by decide) rfl (zE_3 _ _ _) (C := RX3) (T := TX3) (N := 4) rfl znX3_lackNumber_X3 1 (by decide) (List.mem_of_getElem? (i := 1) rfl) rfl dX3_lackNumber_43 ?_
      refine lv_iload_n hx hb dX3_lackNumber_46 rfl (lv_at hl 2 rfl) ?_
      obtain ⟨q47, h⟩ := h
      refine zlald hF hSt hH 17 (by decide) rfl (zE_17 _ _ _) q47 dX3_lackNumber_47 ?_
      refine lv_iload_n hx hb dX3_lackNumber_48 rfl (lv_at hl 0 rfl) ?_
      refine zcalliP hH (va_runSN (As := [.long (M.2 17 x1.toNatClampNeg), .int t0]) (rest := []) hF (kX5_byteOf l G M O (M.2 17 x1.toNatClampNeg) t0 _ h) ⟨va_cnB 2 hts gX3_lackNumber_X5_byteOf_n68 rfl rfl rfl (hSt.2.2.1 _ zNest_X3_68) (hts _ (List.mem_of_getElem? (i := 7) rfl)) zdX5_byteOf ⟨Nat.le_of_ble_eq_true rfl, Nat.le_of_ble_eq_true rfl⟩, hts _ (List.mem_of_getElem? (i := 6) rfl), trivial⟩ (zpreS hSt hH [.long (M.2 17 x1.toNatClampNeg), .int t0]) rfl rfl hl.1 rfl (lv_room (Nat.le_of_ble_eq_true rfl)) dX3_lackNumber_49 ⟨Nat.zero_le _, Nat.zero_le _⟩) (fun r49 H locs h hH => ?_)
      refine zcalliP hH (va_runSN (As := [.int r49]) (rest := []) hF (kX5_inverseOf l G M O r49 _ h) ⟨va_cnB 1 hts gX3_lackNumber_X5_inverseOf_n79 rfl rfl rfl (hSt.2.2.1 _ zNest_X3_79) (hts _ (List.mem_of_getElem? (i := 7) rfl)) zdX5_inverseOf ⟨Nat.le_of_ble_eq_true rfl, Nat.le_of_ble_eq_true rfl⟩, hts _ (List.mem_of_getElem? (i := 9) rfl), trivial⟩ (zpreS hSt hH [.int r49]) rfl rfl hl.1 rfl (lv_room (Nat.le_of_ble_eq_true rfl)) dX3_lackNumber_52 ⟨Nat.zero_le _, Nat.zero_le _⟩) (fun r52 H locs h hH => ?_)
      exact wX3_lackNumber_b55 hF hSt hret x2 t0 r52 H locs ls hH (lv_sub hl [1, 3, 0] rfl) h
    · have h := h.2 q35
      refine lv_iconst (v := (1 : Int32)) hx hb dX3_lackNumber_38 (by decide) ?_
      refine lv_goto (tgt := 55) hx hb dX3_lackNumber_39 (by decide) ?_
      exact wX3_lackNumber_b55 hF hSt hret x2 t0 (1 : Int32) H locs ls hH (lv_sub hl [1, 3, 0] rfl) h
  · have h := h.2 q28
    refine lv_iconst (v := (-1 : Int32)) hx hb dX3_lackNumber_31 (by decide) ?_
    exact hret _ _ _ _ _ _ dX3_lackNumber_32 ⟨rfl, h⟩ hH
def pX3_lackNumber (M : zM) (x1 : Int32) (x2 : Int32) (post : Int32 → Prop) : Prop :=
  vp_in x1 4 ∧ (¬ ((lg_cmp (M.2 17 x1.toNatClampNeg) (0 : Int64)) = 0) → vp_in x1 4 ∧ pX3_lastPieceIn (M.2 17 x1.toNatClampNeg) x1 (fun r22 => pX3_lackNumber_b25 M post x1 x2 r22)) ∧ ((lg_cmp (M.2 17 x1.toNatClampNeg) (0 : Int64)) = 0 → pX3_lackNumber_b25 M post x1 x2 x1)
set_option maxHeartbeats 4000000 in
set_option maxRecDepth 100000 in
theorem wX3_lackNumber {M : zM} {post : Int32 → Prop} (hF : CallFix p m c cX3_lackNumber 5 s args wsX3_lackNumber RX3) (hSt : zSt G s) (hret : zRi p l e ({ frames := 2, cells := 0, slots := 0, locals := 55 } : Room) s m args below meth c Q cX3_lackNumber G true O (fun r M1 => M1 = M ∧ post r)) (x1 : Int32) (x2 : Int32) (H : Heap) (locs : List Loc) (ls : Array Slot) (hH : zH G true s H locs M O) (hl : lv_has ls 5 [(0, .ref (G.1 3)), (1, .int x1), (2, .int x2)]) (h : pX3_lackNumber M x1 x2 post) : W p l e ({ frames := 2, cells := 0, slots := 0, locals := 55 } : Room) s m args below meth c H locs 0 0 Q (F0 m 0 ls []) := by
  obtain ⟨hx, hb, hml, hown, hts⟩ := id hF
  unfold pX3_lackNumber at h
  refine lv_aload_n hx hb dX3_lackNumber_0 rfl (lv_at hl 0 rfl) ?_
  refine zget (v := .ref (G.1 17)) hF hSt hH 3 (by decide) rfl (zE_3 _ _ _) (C := RX3) (T := TX3) (N := 4) rfl znX3_lackNumber_X3 1 (by decide) (List.mem_of_getElem? (i := 1) rfl) rfl dX3_lackNumber_1 ?_
  refine lv_iload_n hx hb dX3_lackNumber_4 rfl (lv_at hl 1 rfl) ?_
  obtain ⟨q5, h⟩ := h
  refine zlald hF hSt hH 17 (by decide) rfl (zE_17 _ _ _) q5 dX3_lackNumber_5 ?_
  refine lv_lconst (v := (0 : Int64)) hx hb dX3_lackNumber_6 (by decide) ?_
  refine W.lcmp hx hb dX3_lackNumber_7 ?_
  refine lv_if_ne (tgt := 15) hx hb dX3_lackNumber_8 (by decide) (fun q8 => ?_) (fun q8 => ?_)
  · have h := h.1 q8
    refine lv_aload_n hx hb dX3_lackNumber_15 rfl (lv_at hl 0 rfl) ?_
    refine zget (v := .ref (G.1 17)) hF hSt hH 3 (by decide) rfl (zE_3 _ _ _) (C := RX3) (T := TX3) (N := 4) rfl znX3_lackNumber_X3 1 (by decide) (List.mem_of_getElem? (i := 1) rfl) rfl dX3_lackNumber_16 ?_
    refine lv_iload_n hx hb dX3_lackNumber_19 rfl (lv_at hl 1 rfl) ?_
    obtain ⟨q20, h⟩ := h
    refine zlald hF hSt hH 17 (by decide) rfl (zE_17 _ _ _) q20 dX3_lackNumber_20 ?_
    refine lv_iload_n hx hb dX3_lackNumber_21 rfl (lv_at hl 1 rfl) ?_
    refine zcalliP hH (va_runS (As := [.long (M.2 17 x1.toNatClampNeg), .int x1]) (rest := []) hF (kX3_lastPieceIn l G M O (M.2 17 x1.toNatClampNeg) x1 _ h) (va_cwS 2 hts gX3_lackNumber_X3_lastPieceIn rfl rfl rfl zdX3_lastPieceIn ⟨Nat.le_of_ble_eq_true rfl, Nat.le_of_ble_eq_true rfl⟩) (zpreS hSt hH [.long (M.2 17 x1.toNatClampNeg), .int x1]) rfl rfl hl.1 rfl (lv_room (Nat.le_of_ble_eq_true rfl)) dX3_lackNumber_22 ⟨Nat.zero_le _, Nat.zero_le _⟩) (fun r22 H locs h hH => ?_)
    exact wX3_lackNumber_b25 hF hSt hret x1 x2 r22 H locs ls hH (lv_sub hl [0, 1, 2] rfl) h
  · have h := h.2 q8
    refine lv_iload_n hx hb dX3_lackNumber_11 rfl (lv_at hl 1 rfl) ?_
    refine lv_goto (tgt := 25) hx hb dX3_lackNumber_12 (by decide) ?_
    exact wX3_lackNumber_b25 hF hSt hret x1 x2 x1 H locs ls hH (lv_sub hl [0, 1, 2] rfl) h
set_option maxRecDepth 100000 in
theorem kX3_lackNumber (l : Launch) (G : zG) (M O : zM) (x1 : Int32) (x2 : Int32) (post : Int32 → Prop) (h : pX3_lackNumber M x1 x2 post) : Met l yX3_lackNumber wsX3_lackNumber ({ frames := 2, cells := 0, slots := 0, locals := 55 } : Room) (zPc G true M O [.ref (G.1 3), .int x1, .int x2]) (va_Qi (fun r M1 => M1 = M ∧ post r) (zB G true O) (zAA G)) 0 0 (zAA G) :=
  zmet_i (by decide) rfl (Nat.le_of_ble_eq_true rfl) (fun hF hSt hret H locs ls hH hl => wX3_lackNumber hF hSt hret x1 x2 H locs ls hH hl h)
end
theorem znX5_lack_X5 : ∀ w ∈ wsX50, w ∈ wsX5_lack := fun _ h => List.mem_cons_of_mem _ (List.mem_append_left _ (List.mem_append_left _ (List.mem_append_right _ h)))
theorem znX5_lack_X2 : ∀ w ∈ wsX20, w ∈ wsX5_lack := fun _ h => List.mem_cons_of_mem _ (List.mem_append_left _ (List.mem_append_right _ h))
theorem znX5_lack_X3 : ∀ w ∈ wsX30, w ∈ wsX5_lack := fun _ h => List.mem_cons_of_mem _ (List.mem_append_right _ h)
theorem zdX5_lack : yX5_lack.cls ≠ "java/lang/invoke/MethodHandle" ∧ yX5_lack.cls ≠ "java/lang/invoke/VarHandle" ∧ (parseMethodDescriptor yX5_lack.desc).map (fun d => d.parameters.length) = some 3 := by decide +kernel
-- MixingRelays lack(III)I
section
variable {p : Program} {l : Launch} {e : Env} {s : State} {m : MethodId} {args : Array Value} {below : List Frame} {meth : Method} {c : Code} {Q : State → Prop} {G : zG} {O : zM}
def pX5_lack_b64 (post : Int32 → zM → Prop) (t0 : Int32) (M : zM) : Prop :=
  post t0 M
set_option maxHeartbeats 4000000 in
set_option maxRecDepth 100000 in
theorem wX5_lack_b64 {post : Int32 → zM → Prop}  (hF : CallFix p m c cX5_lack 5 s args wsX5_lack RX5) (hSt : zSt G s) (hret : zRi p l e ({ frames := 5, cells := 0, slots := 0, locals := 123 } : Room) s m args below meth c Q cX5_lack G true O post) (t0 : Int32) (M : zM) (H : Heap) (locs : List Loc) (ls : Array Slot) (hH : zH G true s H locs M O) (hl : lv_has ls 5 []) (h : pX5_lack_b64 post t0 M) : W p l e ({ frames := 5, cells := 0, slots := 0, locals := 123 } : Room) s m args below meth c H locs 0 0 Q (F0 m 64 ls [.int t0]) := by
  obtain ⟨hx, hb, hml, hown, hts⟩ := id hF
  unfold pX5_lack_b64 at h
  exact hret _ _ _ _ _ _ dX5_lack_64 h hH
def pX5_lack_b21 (post : Int32 → zM → Prop) (x1 : Int32) (x2 : Int32) (x3 : Int32) (t0 : Int32) (M : zM) : Prop :=
  (t0 = 0 → pX3_rankNow M x1 (fun r36 M36 => pX3_worksOut M36 x2 (fun r45 => (r45 = 0 → pX3_lackNumber M36 x2 x3 (fun r61 => pX5_lack_b64 post r61 M36)) ∧ (¬ (r45 = 0) → pX5_lack_b64 post (-1 : Int32) M36)))) ∧ (¬ (t0 = 0) → post t0 M)
set_option maxHeartbeats 4000000 in
set_option maxRecDepth 100000 in
theorem wX5_lack_b21 {post : Int32 → zM → Prop}  (hF : CallFix p m c cX5_lack 5 s args wsX5_lack RX5) (hSt : zSt G s) (hret : zRi p l e ({ frames := 5, cells := 0, slots := 0, locals := 123 } : Room) s m args below meth c Q cX5_lack G true O post) (x1 : Int32) (x2 : Int32) (x3 : Int32) (t0 : Int32) (M : zM) (H : Heap) (locs : List Loc) (ls : Array Slot) (hH : zH G true s H locs M O) (hl : lv_has ls 5 [(0, .ref (G.1 0)), (1, .int x1), (2, .int x2), (3, .int x3)]) (h : pX5_lack_b21 post x1 x2 x3 t0 M) : W p l e ({ frames := 5, cells := 0, slots := 0, locals := 123 } : Room) s m args below meth c H locs 0 0 Q (F0 m 21 ls [.int t0]) := by
  obtain ⟨hx, hb, hml, hown, hts⟩ := id hF
  unfold pX5_lack_b21 at h
  refine lv_istore (lv' := [(4, .int t0), (0, .ref (G.1 0)), (1, .int x1), (2, .int x2), (3, .int x3)]) hx hb dX5_lack_21 hl (by decide) rfl (fun ls hl => ?_)
  refine lv_iload hx hb dX5_lack_23 (lv_at hl 0 rfl) ?_
  refine lv_if_eq (tgt := 31) hx hb dX5_lack_25 (by decide) (fun q25 => ?_) (fun q25 => ?_)
  · have h := h.1 q25
    refine lv_aload_n hx hb dX5_lack_31 rfl (lv_at hl 1 rfl) ?_
    refine zget (v := .ref (G.1 3)) hF hSt hH 0 (by decide) rfl (zE_0 _ _ _) (C := RX5) (T := TX5) (N := 5) rfl znX5_lack_X5 2 (by decide) (List.mem_of_getElem? (i := 2) rfl) rfl dX5_lack_32 ?_
    refine lv_iload_n hx hb dX5_lack_35 rfl (lv_at hl 2 rfl) ?_
    refine zcalli hH (va_runV (As := [.int x1]) (rest := []) hF (kX3_rankNow l G M O x1 _ h) (cwV 1 hts gX5_lack_X3_rankNow rfl rfl rfl ⟨rfl, zdX3_rankNow⟩ ⟨Nat.le_of_ble_eq_true rfl, Nat.le_of_ble_eq_true rfl⟩) (zpreV hSt hH 3 (by decide) rfl (zE_3 _ _ _) (q := (RX3, TX3, 4)) rfl [.int x1]) rfl rfl hl.1 rfl (lv_room (Nat.le_of_ble_eq_true rfl)) dX5_lack_36 ⟨Nat.zero_le _, Nat.zero_le _⟩) (fun r36 M36 H locs h hH => ?_)
    refine lv_pop hx hb dX5_lack_39 rfl ?_
    refine lv_aload_n hx hb dX5_lack_40 rfl (lv_at hl 1 rfl) ?_
    refine zget (v := .ref (G.1 3)) hF hSt hH 0 (by decide) rfl (zE_0 _ _ _) (C := RX5) (T := TX5) (N := 5) rfl znX5_lack_X5 2 (by decide) (List.mem_of_getElem? (i := 2) rfl) rfl dX5_lack_41 ?_
    refine lv_iload_n hx hb dX5_lack_44 rfl (lv_at hl 3 rfl) ?_
    refine zcalliP hH (va_runV (As := [.int x2]) (rest := []) hF (kX3_worksOut l G M36 O x2 _ h) (cwV 1 hts gX5_lack_X3_worksOut rfl rfl rfl ⟨rfl, zdX3_worksOut⟩ ⟨Nat.le_of_ble_eq_true rfl, Nat.le_of_ble_eq_true rfl⟩) (zpreV hSt hH 3 (by decide) rfl (zE_3 _ _ _) (q := (RX3, TX3, 4)) rfl [.int x2]) rfl rfl hl.1 rfl (lv_room (Nat.le_of_ble_eq_true rfl)) dX5_lack_45 ⟨Nat.zero_le _, Nat.zero_le _⟩) (fun r45 H locs h hH => ?_)
    refine lv_if_eq (tgt := 55) hx hb dX5_lack_48 (by decide) (fun q48 => ?_) (fun q48 => ?_)
    · have h := h.1 q48
      refine lv_aload_n hx hb dX5_lack_55 rfl (lv_at hl 1 rfl) ?_
      refine zget (v := .ref (G.1 3)) hF hSt hH 0 (by decide) rfl (zE_0 _ _ _) (C := RX5) (T := TX5) (N := 5) rfl znX5_lack_X5 2 (by decide) (List.mem_of_getElem? (i := 2) rfl) rfl dX5_lack_56 ?_
      refine lv_iload_n hx hb dX5_lack_59 rfl (lv_at hl 3 rfl) ?_
      refine lv_iload_n hx hb dX5_lack_60 rfl (lv_at hl 4 rfl) ?_
      refine zcalliP hH (va_runV (As := [.int x2, .int x3]) (rest := []) hF (kX3_lackNumber l G M36 O x2 x3 _ h) (cwV 2 hts gX5_lack_X3_lackNumber rfl rfl rfl ⟨rfl, zdX3_lackNumber⟩ ⟨Nat.le_of_ble_eq_true rfl, Nat.le_of_ble_eq_true rfl⟩) (zpreV hSt hH 3 (by decide) rfl (zE_3 _ _ _) (q := (RX3, TX3, 4)) rfl [.int x2, .int x3]) rfl rfl hl.1 rfl (lv_room (Nat.le_of_ble_eq_true rfl)) dX5_lack_61 ⟨Nat.zero_le _, Nat.zero_le _⟩) (fun r61 H locs h hH => ?_)
      exact wX5_lack_b64 hF hSt hret r61 M36 H locs ls hH (lv_sub hl [] rfl) h
    · have h := h.2 q48
      refine lv_iconst (v := (-1 : Int32)) hx hb dX5_lack_51 (by decide) ?_
      refine lv_goto (tgt := 64) hx hb dX5_lack_52 (by decide) ?_
      exact wX5_lack_b64 hF hSt hret (-1 : Int32) M36 H locs ls hH (lv_sub hl [] rfl) h
  · have h := h.2 q25
    refine lv_iload hx hb dX5_lack_28 (lv_at hl 0 rfl) ?_
    exact hret _ _ _ _ _ _ dX5_lack_30 h hH
def pX5_lack (M : zM) (x1 : Int32) (x2 : Int32) (x3 : Int32) (post : Int32 → zM → Prop) : Prop :=
  pX2_isPiece M x3 (fun r5 => (r5 = 0 → pX5_lack_b21 post x1 x2 x3 (-1 : Int32) M) ∧ (¬ (r5 = 0) → pX5_refusalOf_ M x1 x2 (fun r14 => pX5_lack_b21 post x1 x2 x3 r14 M)))
set_option maxHeartbeats 4000000 in
set_option maxRecDepth 100000 in
theorem wX5_lack {M : zM} {post : Int32 → zM → Prop} (hF : CallFix p m c cX5_lack 5 s args wsX5_lack RX5) (hSt : zSt G s) (hret : zRi p l e ({ frames := 5, cells := 0, slots := 0, locals := 123 } : Room) s m args below meth c Q cX5_lack G true O post) (x1 : Int32) (x2 : Int32) (x3 : Int32) (H : Heap) (locs : List Loc) (ls : Array Slot) (hH : zH G true s H locs M O) (hl : lv_has ls 5 [(0, .ref (G.1 0)), (1, .int x1), (2, .int x2), (3, .int x3)]) (h : pX5_lack M x1 x2 x3 post) : W p l e ({ frames := 5, cells := 0, slots := 0, locals := 123 } : Room) s m args below meth c H locs 0 0 Q (F0 m 0 ls []) := by
  obtain ⟨hx, hb, hml, hown, hts⟩ := id hF
  unfold pX5_lack at h
  refine lv_aload_n hx hb dX5_lack_0 rfl (lv_at hl 0 rfl) ?_
  refine zget (v := .ref (G.1 1)) hF hSt hH 0 (by decide) rfl (zE_0 _ _ _) (C := RX5) (T := TX5) (N := 5) rfl znX5_lack_X5 0 (by decide) (List.mem_of_getElem? (i := 1) rfl) rfl dX5_lack_1 ?_
  refine lv_iload_n hx hb dX5_lack_4 rfl (lv_at hl 3 rfl) ?_
  refine zcalliP hH (va_runV (As := [.int x3]) (rest := []) hF (kX2_isPiece l G M O x3 _ h) (cwV 1 hts gX5_lack_X2_isPiece rfl rfl rfl ⟨rfl, zdX2_isPiece⟩ ⟨Nat.le_of_ble_eq_true rfl, Nat.le_of_ble_eq_true rfl⟩) (zpreV hSt hH 1 (by decide) rfl (zE_1 _ _ _) (q := (RX2, TX2, 16)) rfl [.int x3]) rfl rfl hl.1 rfl (lv_room (Nat.le_of_ble_eq_true rfl)) dX5_lack_5 ⟨Nat.zero_le _, Nat.zero_le _⟩) (fun r5 H locs h hH => ?_)
  refine lv_if_eq (tgt := 20) hx hb dX5_lack_8 (by decide) (fun q8 => ?_) (fun q8 => ?_)
  · have h := h.1 q8
    refine lv_iconst (v := (-1 : Int32)) hx hb dX5_lack_20 (by decide) ?_
    exact wX5_lack_b21 hF hSt hret x1 x2 x3 (-1 : Int32) M H locs ls hH (lv_sub hl [0, 1, 2, 3] rfl) h
  · have h := h.2 q8
    refine lv_aload_n hx hb dX5_lack_11 rfl (lv_at hl 0 rfl) ?_
    refine lv_iload_n hx hb dX5_lack_12 rfl (lv_at hl 1 rfl) ?_
    refine lv_iload_n hx hb dX5_lack_13 rfl (lv_at hl 2 rfl) ?_
    refine zcalliP hH (va_runV (As := [.int x1, .int x2]) (rest := []) hF (kX5_refusalOf_ l G M O x1 x2 _ h) (cwV 2 hts gX5_lack_X5_refusalOf_ rfl rfl rfl ⟨rfl, zdX5_refusalOf_⟩ ⟨Nat.le_of_ble_eq_true rfl, Nat.le_of_ble_eq_true rfl⟩) (zpreV hSt hH 0 (by decide) rfl (zE_0 _ _ _) (q := (RX5, TX5, 5)) rfl [.int x1, .int x2]) rfl rfl hl.1 rfl (lv_room (Nat.le_of_ble_eq_true rfl)) dX5_lack_14 ⟨Nat.zero_le _, Nat.zero_le _⟩) (fun r14 H locs h hH => ?_)
    refine lv_goto (tgt := 21) hx hb dX5_lack_17 (by decide) ?_
    exact wX5_lack_b21 hF hSt hret x1 x2 x3 r14 M H locs ls hH (lv_sub hl [0, 1, 2, 3] rfl) h
set_option maxRecDepth 100000 in
theorem kX5_lack (l : Launch) (G : zG) (M O : zM) (x1 : Int32) (x2 : Int32) (x3 : Int32) (post : Int32 → zM → Prop) (h : pX5_lack M x1 x2 x3 post) : Met l yX5_lack wsX5_lack ({ frames := 5, cells := 0, slots := 0, locals := 123 } : Room) (zPc G true M O [.ref (G.1 0), .int x1, .int x2, .int x3]) (va_Qi post (zB G true O) (zAA G)) 0 0 (zAA G) :=
  zmet_i (by decide) rfl (Nat.le_of_ble_eq_true rfl) (fun hF hSt hret H locs ls hH hl => wX5_lack hF hSt hret x1 x2 x3 H locs ls hH hl h)
end
theorem znX3_isMisled_X3 : ∀ w ∈ wsX30, w ∈ wsX3_isMisled := fun _ h => List.mem_cons_of_mem _ (List.mem_append_left _ (List.mem_append_right _ h))
theorem znX3_isMisled_X2 : ∀ w ∈ wsX20, w ∈ wsX3_isMisled := fun _ h => List.mem_cons_of_mem _ (List.mem_append_right _ h)
theorem zdX3_isMisled : yX3_isMisled.cls ≠ "java/lang/invoke/MethodHandle" ∧ yX3_isMisled.cls ≠ "java/lang/invoke/VarHandle" ∧ (parseMethodDescriptor yX3_isMisled.desc).map (fun d => d.parameters.length) = some 0 := by decide +kernel
-- MixingRelays$Span isMisled()Z
section
variable {p : Program} {l : Launch} {e : Env} {s : State} {m : MethodId} {args : Array Value} {below : List Frame} {meth : Method} {c : Code} {Q : State → Prop} {G : zG} {O : zM}
def pX3_isMisled_b41 (M : zM) (post : Int32 → Prop) (ag2 : Int32 → Prop) (x1 : Int32) : Prop :=
  ag2 (x1 + (1 : Int32))
set_option maxHeartbeats 4000000 in
set_option maxRecDepth 100000 in
theorem wX3_isMisled_b41 {M : zM} {post : Int32 → Prop} {ag2 : Int32 → Prop} (hF : CallFix p m c cX3_isMisled 2 s args wsX3_isMisled RX3) (hSt : zSt G s) (hret : zRz p l e ({ frames := 3, cells := 0, slots := 0, locals := 68 } : Room) s m args below meth c Q cX3_isMisled G true O (fun r M1 => M1 = M ∧ post r)) (hag2 : ∀ (x1 : Int32) (H : Heap) (locs : List Loc) (ls : Array Slot), ag2 x1 → zH G true s H locs M O → lv_has ls 2 [(0, .ref (G.1 3)), (1, .int x1)] → W p l e ({ frames := 3, cells := 0, slots := 0, locals := 68 } : Room) s m args below meth c H locs 0 0 Q (F0 m 2 ls [])) (x1 : Int32) (H : Heap) (locs : List Loc) (ls : Array Slot) (hH : zH G true s H locs M O) (hl : lv_has ls 2 [(0, .ref (G.1 3)), (1, .int x1)]) (h : pX3_isMisled_b41 M post ag2 x1) : W p l e ({ frames := 3, cells := 0, slots := 0, locals := 68 } : Room) s m args below meth c H locs 0 0 Q (F0 m 41 ls []) := by
  obtain ⟨hx, hb, hml, hown, hts⟩ := id hF
  unfold pX3_isMisled_b41 at h
  refine lv_iinc (v := (x1 + (1 : Int32))) (lv' := [(1, .int (x1 + (1 : Int32))), (0, .ref (G.1 3))]) hx hb dX3_isMisled_41 hl (k := 1) rfl rfl (by decide) rfl (fun ls hl => ?_)
  refine lv_goto (tgt := 2) hx hb dX3_isMisled_44 (by decide) ?_
  exact hag2 (x1 + (1 : Int32)) H locs ls h hH (lv_sub hl [1, 0] rfl)
def pX3_isMisled_b2 (M : zM) (post : Int32 → Prop) (ag2 : Int32 → Prop) (x1 : Int32) : Prop :=
  ((M.1 1 2) ≤ x1 → ((0 : Int32) = 0 ∨ (0 : Int32) = 1) ∧ post (0 : Int32)) ∧ (¬ ((M.1 1 2) ≤ x1) → pX3_worksOut M x1 (fun r15 => (r15 = 0 → pX3_isMisled_b41 M post ag2 x1) ∧ (¬ (r15 = 0) → pX3_bytesFor M x1 (fun r23 => vp_in x1 4 ∧ ((lg_cmp r23 (M.2 9 x1.toNatClampNeg)) = 0 → pX3_isMisled_b41 M post ag2 x1) ∧ (¬ ((lg_cmp r23 (M.2 9 x1.toNatClampNeg)) = 0) → ((1 : Int32) = 0 ∨ (1 : Int32) = 1) ∧ post (1 : Int32))))))
set_option maxHeartbeats 4000000 in
set_option maxRecDepth 100000 in
theorem wX3_isMisled_b2 {M : zM} {post : Int32 → Prop} {ag2 : Int32 → Prop} (hF : CallFix p m c cX3_isMisled 2 s args wsX3_isMisled RX3) (hSt : zSt G s) (hret : zRz p l e ({ frames := 3, cells := 0, slots := 0, locals := 68 } : Room) s m args below meth c Q cX3_isMisled G true O (fun r M1 => M1 = M ∧ post r)) (hag2 : ∀ (x1 : Int32) (H : Heap) (locs : List Loc) (ls : Array Slot), ag2 x1 → zH G true s H locs M O → lv_has ls 2 [(0, .ref (G.1 3)), (1, .int x1)] → W p l e ({ frames := 3, cells := 0, slots := 0, locals := 68 } : Room) s m args below meth c H locs 0 0 Q (F0 m 2 ls [])) (x1 : Int32) (H : Heap) (locs : List Loc) (ls : Array Slot) (hH : zH G true s H locs M O) (hl : lv_has ls 2 [(0, .ref (G.1 3)), (1, .int x1)]) (h : pX3_isMisled_b2 M post ag2 x1) : W p l e ({ frames := 3, cells := 0, slots := 0, locals := 68 } : Room) s m args below meth c H locs 0 0 Q (F0 m 2 ls []) := by
  obtain ⟨hx, hb, hml, hown, hts⟩ := id hF
  unfold pX3_isMisled_b2 at h
  refine lv_iload_n hx hb dX3_isMisled_2 rfl (lv_at hl 1 rfl) ?_
  refine lv_aload_n hx hb dX3_isMisled_3 rfl (lv_at hl 0 rfl) ?_
  refine zget (v := .ref (G.1 1)) hF hSt hH 3 (by decide) rfl (zE_3 _ _ _) (C := RX3) (T := TX3) (N := 4) rfl znX3_isMisled_X3 0 (by decide) (List.mem_of_getElem? (i := 1) rfl) rfl dX3_isMisled_4 ?_
  refine zget (v := .int (M.1 1 2)) hF hSt hH 1 (by decide) rfl (zE_1 _ _ _) (C := RX2) (T := TX2) (N := 16) rfl znX3_isMisled_X2 2 (by decide) (List.mem_of_getElem? (i := 2) rfl) rfl dX3_isMisled_7 ?_
  refine lv_icmp_ge (tgt := 47) hx hb dX3_isMisled_10 (by decide) (fun q10 => ?_) (fun q10 => ?_)
  · have h := h.1 q10
    refine lv_iconst (v := (0 : Int32)) hx hb dX3_isMisled_47 (by decide) ?_
    exact hret _ _ _ _ _ _ dX3_isMisled_48 ⟨h.1, rfl, h.2⟩ hH
  · have h := h.2 q10
    refine lv_aload_n hx hb dX3_isMisled_13 rfl (lv_at hl 0 rfl) ?_
    refine lv_iload_n hx hb dX3_isMisled_14 rfl (lv_at hl 1 rfl) ?_
    refine zcalliP hH (va_runV (As := [.int x1]) (rest := []) hF (kX3_worksOut l G M O x1 _ h) (cwV 1 hts gX3_isMisled_X3_worksOut rfl rfl rfl ⟨rfl, zdX3_worksOut⟩ ⟨Nat.le_of_ble_eq_true rfl, Nat.le_of_ble_eq_true rfl⟩) (zpreV hSt hH 3 (by decide) rfl (zE_3 _ _ _) (q := (RX3, TX3, 4)) rfl [.int x1]) rfl rfl hl.1 rfl (lv_room (Nat.le_of_ble_eq_true rfl)) dX3_isMisled_15 ⟨Nat.zero_le _, Nat.zero_le _⟩) (fun r15 H locs h hH => ?_)
    refine lv_if_eq (tgt := 41) hx hb dX3_isMisled_18 (by decide) (fun q18 => ?_) (fun q18 => ?_)
    · have h := h.1 q18
      exact wX3_isMisled_b41 hF hSt hret hag2 x1 H locs ls hH (lv_sub hl [0, 1] rfl) h
    · have h := h.2 q18
      refine lv_aload_n hx hb dX3_isMisled_21 rfl (lv_at hl 0 rfl) ?_
      refine lv_iload_n hx hb dX3_isMisled_22 rfl (lv_at hl 1 rfl) ?_
      refine zcalllP hH (va_runV (As := [.int x1]) (rest := []) hF (kX3_bytesFor l G M O x1 _ h) (cwV 1 hts gX3_isMisled_X3_bytesFor rfl rfl rfl ⟨rfl, zdX3_bytesFor⟩ ⟨Nat.le_of_ble_eq_true rfl, Nat.le_of_ble_eq_true rfl⟩) (zpreV hSt hH 3 (by decide) rfl (zE_3 _ _ _) (q := (RX3, TX3, 4)) rfl [.int x1]) rfl rfl hl.1 rfl (lv_room (Nat.le_of_ble_eq_true rfl)) dX3_isMisled_23 ⟨Nat.zero_le _, Nat.zero_le _⟩) (fun r23 H locs h hH => ?_)
      refine lv_aload_n hx hb dX3_isMisled_26 rfl (lv_at hl 0 rfl) ?_
      refine zget (v := .ref (G.1 1)) hF hSt hH 3 (by decide) rfl (zE_3 _ _ _) (C := RX3) (T := TX3) (N := 4) rfl znX3_isMisled_X3 0 (by decide) (List.mem_of_getElem? (i := 1) rfl) rfl dX3_isMisled_27 ?_
      refine zget (v := .ref (G.1 9)) hF hSt hH 1 (by decide) rfl (zE_1 _ _ _) (C := RX2) (T := TX2) (N := 16) rfl znX3_isMisled_X2 9 (by decide) (List.mem_of_getElem? (i := 3) rfl) rfl dX3_isMisled_30 ?_
      refine lv_iload_n hx hb dX3_isMisled_33 rfl (lv_at hl 1 rfl) ?_
      obtain ⟨q34, h⟩ := h
      refine zlald hF hSt hH 9 (by decide) rfl (zE_9 _ _ _) q34 dX3_isMisled_34 ?_
      refine W.lcmp hx hb dX3_isMisled_35 ?_
      refine lv_if_eq (tgt := 41) hx hb dX3_isMisled_36 (by decide) (fun q36 => ?_) (fun q36 => ?_)
      · have h := h.1 q36
        exact wX3_isMisled_b41 hF hSt hret hag2 x1 H locs ls hH (lv_sub hl [0, 1] rfl) h
      · have h := h.2 q36
        refine lv_iconst (v := (1 : Int32)) hx hb dX3_isMisled_39 (by decide) ?_
        exact hret _ _ _ _ _ _ dX3_isMisled_40 ⟨h.1, rfl, h.2⟩ hH
def pX3_isMisled_L2 (M : zM) (post : Int32 → Prop) (x1 : Int32) : Prop :=
  ∃ I : Nat → Int32 → Prop, (∃ n, I n x1) ∧ ∀ n x1, I n x1 → pX3_isMisled_b2 M post (fun x1 => ∃ k, k < n ∧ I k x1) x1
set_option maxHeartbeats 4000000 in
theorem wX3_isMisled_L2 {M : zM} {post : Int32 → Prop}  (hF : CallFix p m c cX3_isMisled 2 s args wsX3_isMisled RX3) (hSt : zSt G s) (hret : zRz p l e ({ frames := 3, cells := 0, slots := 0, locals := 68 } : Room) s m args below meth c Q cX3_isMisled G true O (fun r M1 => M1 = M ∧ post r)) (x1 : Int32) (H : Heap) (locs : List Loc) (ls : Array Slot) (hH : zH G true s H locs M O) (hl : lv_has ls 2 [(0, .ref (G.1 3)), (1, .int x1)]) (h : pX3_isMisled_L2 M post x1) : W p l e ({ frames := 3, cells := 0, slots := 0, locals := 68 } : Room) s m args below meth c H locs 0 0 Q (F0 m 2 ls []) := by
  obtain ⟨I, ⟨n, hI⟩, hs⟩ := h
  have key : ∀ (n : Nat) (x1 : Int32) (H : Heap) (locs : List Loc) (ls : Array Slot), I n x1 → zH G true s H locs M O → lv_has ls 2 [(0, .ref (G.1 3)), (1, .int x1)] → W p l e ({ frames := 3, cells := 0, slots := 0, locals := 68 } : Room) s m args below meth c H locs 0 0 Q (F0 m 2 ls []) := by
    intro n
    induction n using Nat.strongRecOn with
    | _ n ih =>
      intro x1 H locs ls hI hH hl
      exact wX3_isMisled_b2 hF hSt hret (fun x1 H locs ls h hH hl => by obtain ⟨k, hk, hI⟩ := h; exact ih k hk x1 H locs ls hI hH hl) x1 H locs ls hH hl (hs n x1 hI)
  exact key n x1 H locs ls hI hH hl
def pX3_isMisled (M : zM)  (post : Int32 → Prop) : Prop :=
  pX3_isMisled_L2 M post (0 : Int32)
set_option maxHeartbeats 4000000 in
set_option maxRecDepth 100000 in
theorem wX3_isMisled {M : zM} {post : Int32 → Prop} (hF : CallFix p m c cX3_isMisled 2 s args wsX3_isMisled RX3) (hSt : zSt G s) (hret : zRz p l e ({ frames := 3, cells := 0, slots := 0, locals := 68 } : Room) s m args below meth c Q cX3_isMisled G true O (fun r M1 => M1 = M ∧ post r))  (H : Heap) (locs : List Loc) (ls : Array Slot) (hH : zH G true s H locs M O) (hl : lv_has ls 2 [(0, .ref (G.1 3))]) (h : pX3_isMisled M  post) : W p l e ({ frames := 3, cells := 0, slots := 0, locals := 68 } : Room) s m args below meth c H locs 0 0 Q (F0 m 0 ls []) := by
  obtain ⟨hx, hb, hml, hown, hts⟩ := id hF
  unfold pX3_isMisled at h
  refine lv_iconst (v := (0 : Int32)) hx hb dX3_isMisled_0 (by decide) ?_
  refine lv_istore_n (lv' := [(1, .int (0 : Int32)), (0, .ref (G.1 3))]) hx hb dX3_isMisled_1 rfl hl (by decide) rfl (fun ls hl => ?_)
  exact wX3_isMisled_L2 hF hSt hret (0 : Int32) H locs ls hH (lv_sub hl [1, 0] rfl) h
set_option maxRecDepth 100000 in
theorem kX3_isMisled (l : Launch) (G : zG) (M O : zM)  (post : Int32 → Prop) (h : pX3_isMisled M  post) : Met l yX3_isMisled wsX3_isMisled ({ frames := 3, cells := 0, slots := 0, locals := 68 } : Room) (zPc G true M O [.ref (G.1 3)]) (va_Qi (fun r M1 => M1 = M ∧ post r) (zB G true O) (zAA G)) 0 0 (zAA G) :=
  zmet_z (by decide) rfl (Nat.le_of_ble_eq_true rfl) (fun hF hSt hret H locs ls hH hl => wX3_isMisled hF hSt hret  H locs ls hH hl h)
end
theorem znX5_wrong_X5 : ∀ w ∈ wsX50, w ∈ wsX5_wrong := fun _ h => List.mem_cons_of_mem _ (List.mem_append_left _ (List.mem_append_left _ (List.mem_append_right _ h)))
theorem znX5_wrong_X2 : ∀ w ∈ wsX20, w ∈ wsX5_wrong := fun _ h => List.mem_cons_of_mem _ (List.mem_append_left _ (List.mem_append_right _ h))
theorem znX5_wrong_X3 : ∀ w ∈ wsX30, w ∈ wsX5_wrong := fun _ h => List.mem_cons_of_mem _ (List.mem_append_right _ h)
theorem zdX5_wrong : yX5_wrong.cls ≠ "java/lang/invoke/MethodHandle" ∧ yX5_wrong.cls ≠ "java/lang/invoke/VarHandle" ∧ (parseMethodDescriptor yX5_wrong.desc).map (fun d => d.parameters.length) = some 0 := by decide +kernel
-- MixingRelays wrong()I
section
variable {p : Program} {l : Launch} {e : Env} {s : State} {m : MethodId} {args : Array Value} {below : List Frame} {meth : Method} {c : Code} {Q : State → Prop} {G : zG} {O : zM}
def pX5_wrong_b73 (post : Int32 → zM → Prop) (ag25 : Int32 → Int32 → zM → Prop) (x1 : Int32) (x2 : Int32) (M : zM) : Prop :=
  ag25 x1 (x2 + (1 : Int32)) M
set_option maxHeartbeats 4000000 in
set_option maxRecDepth 100000 in
theorem wX5_wrong_b73 {post : Int32 → zM → Prop} {ag25 : Int32 → Int32 → zM → Prop} (hF : CallFix p m c cX5_wrong 3 s args wsX5_wrong RX5) (hSt : zSt G s) (hret : zRi p l e ({ frames := 4, cells := 0, slots := 0, locals := 102 } : Room) s m args below meth c Q cX5_wrong G true O post) (hag25 : ∀ (x1 : Int32) (x2 : Int32) (M : zM) (H : Heap) (locs : List Loc) (ls : Array Slot), ag25 x1 x2 M → zH G true s H locs M O → lv_has ls 3 [(0, .ref (G.1 0)), (1, .int x1), (2, .int x2)] → W p l e ({ frames := 4, cells := 0, slots := 0, locals := 102 } : Room) s m args below meth c H locs 0 0 Q (F0 m 25 ls [])) (x1 : Int32) (x2 : Int32) (M : zM) (H : Heap) (locs : List Loc) (ls : Array Slot) (hH : zH G true s H locs M O) (hl : lv_has ls 3 [(0, .ref (G.1 0)), (1, .int x1), (2, .int x2)]) (h : pX5_wrong_b73 post ag25 x1 x2 M) : W p l e ({ frames := 4, cells := 0, slots := 0, locals := 102 } : Room) s m args below meth c H locs 0 0 Q (F0 m 73 ls []) := by
  obtain ⟨hx, hb, hml, hown, hts⟩ := id hF
  unfold pX5_wrong_b73 at h
  refine lv_iinc (v := (x2 + (1 : Int32))) (lv' := [(2, .int (x2 + (1 : Int32))), (0, .ref (G.1 0)), (1, .int x1)]) hx hb dX5_wrong_73 hl (k := 2) rfl rfl (by decide) rfl (fun ls hl => ?_)
  refine lv_goto (tgt := 25) hx hb dX5_wrong_76 (by decide) ?_
  exact hag25 x1 (x2 + (1 : Int32)) M H locs ls h hH (lv_sub hl [1, 2, 0] rfl)
def pX5_wrong_b25 (post : Int32 → zM → Prop) (ag25 : Int32 → Int32 → zM → Prop) (x1 : Int32) (x2 : Int32) (M : zM) : Prop :=
  ((M.1 1 0) ≤ x2 → post x1 M) ∧ (¬ ((M.1 1 0) ≤ x2) → pX5_flag (M.1 1 3) x2 (fun r44 => (¬ (r44 = (1 : Int32)) → pX5_wrong_b73 post ag25 x1 x2 M) ∧ (r44 = (1 : Int32) → pX3_gather M x2 (fun r56 M56 => pX3_isMisled M56  (fun r65 => pX5_asFlag r65 (fun r68 => pX5_wrong_b73 post ag25 (x1 + r68) x2 M56))))))
set_option maxHeartbeats 4000000 in
set_option maxRecDepth 100000 in
theorem wX5_wrong_b25 {post : Int32 → zM → Prop} {ag25 : Int32 → Int32 → zM → Prop} (hF : CallFix p m c cX5_wrong 3 s args wsX5_wrong RX5) (hSt : zSt G s) (hret : zRi p l e ({ frames := 4, cells := 0, slots := 0, locals := 102 } : Room) s m args below meth c Q cX5_wrong G true O post) (hag25 : ∀ (x1 : Int32) (x2 : Int32) (M : zM) (H : Heap) (locs : List Loc) (ls : Array Slot), ag25 x1 x2 M → zH G true s H locs M O → lv_has ls 3 [(0, .ref (G.1 0)), (1, .int x1), (2, .int x2)] → W p l e ({ frames := 4, cells := 0, slots := 0, locals := 102 } : Room) s m args below meth c H locs 0 0 Q (F0 m 25 ls [])) (x1 : Int32) (x2 : Int32) (M : zM) (H : Heap) (locs : List Loc) (ls : Array Slot) (hH : zH G true s H locs M O) (hl : lv_has ls 3 [(0, .ref (G.1 0)), (1, .int x1), (2, .int x2)]) (h : pX5_wrong_b25 post ag25 x1 x2 M) : W p l e ({ frames := 4, cells := 0, slots := 0, locals := 102 } : Room) s m args below meth c H locs 0 0 Q (F0 m 25 ls []) := by
  obtain ⟨hx, hb, hml, hown, hts⟩ := id hF
  unfold pX5_wrong_b25 at h
  refine lv_iload_n hx hb dX5_wrong_25 rfl (lv_at hl 2 rfl) ?_
  refine lv_aload_n hx hb dX5_wrong_26 rfl (lv_at hl 0 rfl) ?_
  refine zget (v := .ref (G.1 1)) hF hSt hH 0 (by decide) rfl (zE_0 _ _ _) (C := RX5) (T := TX5) (N := 5) rfl znX5_wrong_X5 0 (by decide) (List.mem_of_getElem? (i := 1) rfl) rfl dX5_wrong_27 ?_
  refine zget (v := .int (M.1 1 0)) hF hSt hH 1 (by decide) rfl (zE_1 _ _ _) (C := RX2) (T := TX2) (N := 16) rfl znX5_wrong_X2 0 (by decide) (List.mem_of_getElem? (i := 3) rfl) rfl dX5_wrong_30 ?_
  refine lv_icmp_ge (tgt := 79) hx hb dX5_wrong_33 (by decide) (fun q33 => ?_) (fun q33 => ?_)
  · have h := h.1 q33
    refine lv_iload_n hx hb dX5_wrong_79 rfl (lv_at hl 1 rfl) ?_
    exact hret _ _ _ _ _ _ dX5_wrong_80 h hH
  · have h := h.2 q33
    refine lv_aload_n hx hb dX5_wrong_36 rfl (lv_at hl 0 rfl) ?_
    refine zget (v := .ref (G.1 1)) hF hSt hH 0 (by decide) rfl (zE_0 _ _ _) (C := RX5) (T := TX5) (N := 5) rfl znX5_wrong_X5 0 (by decide) (List.mem_of_getElem? (i := 1) rfl) rfl dX5_wrong_37 ?_
    refine zget (v := .int (M.1 1 3)) hF hSt hH 1 (by decide) rfl (zE_1 _ _ _) (C := RX2) (T := TX2) (N := 16) rfl znX5_wrong_X2 3 (by decide) (List.mem_of_getElem? (i := 4) rfl) rfl dX5_wrong_40 ?_
    refine lv_iload_n hx hb dX5_wrong_43 rfl (lv_at hl 2 rfl) ?_
    refine zcalliP hH (va_runS (As := [.int (M.1 1 3), .int x2]) (rest := []) hF (kX5_flag l G M O (M.1 1 3) x2 _ h) (va_cwS 2 hts gX5_wrong_X5_flag rfl rfl rfl zdX5_flag ⟨Nat.le_of_ble_eq_true rfl, Nat.le_of_ble_eq_true rfl⟩) (zpreS hSt hH [.int (M.1 1 3), .int x2]) rfl rfl hl.1 rfl (lv_room (Nat.le_of_ble_eq_true rfl)) dX5_wrong_44 ⟨Nat.zero_le _, Nat.zero_le _⟩) (fun r44 H locs h hH => ?_)
    refine lv_iconst (v := (1 : Int32)) hx hb dX5_wrong_47 (by decide) ?_
    refine lv_icmp_ne (tgt := 73) hx hb dX5_wrong_48 (by decide) (fun q48 => ?_) (fun q48 => ?_)
    · have h := h.1 q48
      exact wX5_wrong_b73 hF hSt hret hag25 x1 x2 M H locs ls hH (lv_sub hl [0, 1, 2] rfl) h
    · have h := h.2 q48
      refine lv_aload_n hx hb dX5_wrong_51 rfl (lv_at hl 0 rfl) ?_
      refine zget (v := .ref (G.1 3)) hF hSt hH 0 (by decide) rfl (zE_0 _ _ _) (C := RX5) (T := TX5) (N := 5) rfl znX5_wrong_X5 2 (by decide) (List.mem_of_getElem? (i := 5) rfl) rfl dX5_wrong_52 ?_
      refine lv_iload_n hx hb dX5_wrong_55 rfl (lv_at hl 2 rfl) ?_
      refine zcalli hH (va_runV (As := [.int x2]) (rest := []) hF (kX3_gather l G M O x2 _ h) (cwV 1 hts gX5_wrong_X3_gather rfl rfl rfl ⟨rfl, zdX3_gather⟩ ⟨Nat.le_of_ble_eq_true rfl, Nat.le_of_ble_eq_true rfl⟩) (zpreV hSt hH 3 (by decide) rfl (zE_3 _ _ _) (q := (RX3, TX3, 4)) rfl [.int x2]) rfl rfl hl.1 rfl (lv_room (Nat.le_of_ble_eq_true rfl)) dX5_wrong_56 ⟨Nat.zero_le _, Nat.zero_le _⟩) (fun r56 M56 H locs h hH => ?_)
      refine lv_pop hx hb dX5_wrong_59 rfl ?_
      refine lv_iload_n hx hb dX5_wrong_60 rfl (lv_at hl 1 rfl) ?_
      refine lv_aload_n hx hb dX5_wrong_61 rfl (lv_at hl 0 rfl) ?_
      refine zget (v := .ref (G.1 3)) hF hSt hH 0 (by decide) rfl (zE_0 _ _ _) (C := RX5) (T := TX5) (N := 5) rfl znX5_wrong_X5 2 (by decide) (List.mem_of_getElem? (i := 5) rfl) rfl dX5_wrong_62 ?_
      refine zcalliP hH (va_runV (As := []) (rest := [.int x1]) hF (kX3_isMisled l G M56 O _ h) (cwV 0 hts gX5_wrong_X3_isMisled rfl rfl rfl ⟨rfl, zdX3_isMisled⟩ ⟨Nat.le_of_ble_eq_true rfl, Nat.le_of_ble_eq_true rfl⟩) (zpreV hSt hH 3 (by decide) rfl (zE_3 _ _ _) (q := (RX3, TX3, 4)) rfl []) rfl rfl hl.1 rfl (lv_room (Nat.le_of_ble_eq_true rfl)) dX5_wrong_65 ⟨Nat.zero_le _, Nat.zero_le _⟩) (fun r65 H locs h hH => ?_)
      refine zcalliP hH (va_runS (As := [.int r65]) (rest := [.int x1]) hF (kX5_asFlag l G M56 O r65 _ h) (va_cwS 1 hts gX5_wrong_X5_asFlag rfl rfl rfl zdX5_asFlag ⟨Nat.le_of_ble_eq_true rfl, Nat.le_of_ble_eq_true rfl⟩) (zpreS hSt hH [.int r65]) rfl rfl hl.1 rfl (lv_room (Nat.le_of_ble_eq_true rfl)) dX5_wrong_68 ⟨Nat.zero_le _, Nat.zero_le _⟩) (fun r68 H locs h hH => ?_)
      refine lv_iadd hx hb dX5_wrong_71 ?_
      refine lv_istore_n (lv' := [(1, .int (x1 + r68)), (0, .ref (G.1 0)), (2, .int x2)]) hx hb dX5_wrong_72 rfl hl (by decide) rfl (fun ls hl => ?_)
      exact wX5_wrong_b73 hF hSt hret hag25 (x1 + r68) x2 M56 H locs ls hH (lv_sub hl [1, 0, 2] rfl) h
def pX5_wrong_L25 (post : Int32 → zM → Prop) (x1 : Int32) (x2 : Int32) (M : zM) : Prop :=
  ∃ I : Nat → Int32 → Int32 → zM → Prop, (∃ n, I n x1 x2 M) ∧ ∀ n x1 x2 M, I n x1 x2 M → pX5_wrong_b25 post (fun x1 x2 M => ∃ k, k < n ∧ I k x1 x2 M) x1 x2 M
set_option maxHeartbeats 4000000 in
theorem wX5_wrong_L25 {post : Int32 → zM → Prop}  (hF : CallFix p m c cX5_wrong 3 s args wsX5_wrong RX5) (hSt : zSt G s) (hret : zRi p l e ({ frames := 4, cells := 0, slots := 0, locals := 102 } : Room) s m args below meth c Q cX5_wrong G true O post) (x1 : Int32) (x2 : Int32) (M : zM) (H : Heap) (locs : List Loc) (ls : Array Slot) (hH : zH G true s H locs M O) (hl : lv_has ls 3 [(0, .ref (G.1 0)), (1, .int x1), (2, .int x2)]) (h : pX5_wrong_L25 post x1 x2 M) : W p l e ({ frames := 4, cells := 0, slots := 0, locals := 102 } : Room) s m args below meth c H locs 0 0 Q (F0 m 25 ls []) := by
  obtain ⟨I, ⟨n, hI⟩, hs⟩ := h
  have key : ∀ (n : Nat) (x1 : Int32) (x2 : Int32) (M : zM) (H : Heap) (locs : List Loc) (ls : Array Slot), I n x1 x2 M → zH G true s H locs M O → lv_has ls 3 [(0, .ref (G.1 0)), (1, .int x1), (2, .int x2)] → W p l e ({ frames := 4, cells := 0, slots := 0, locals := 102 } : Room) s m args below meth c H locs 0 0 Q (F0 m 25 ls []) := by
    intro n
    induction n using Nat.strongRecOn with
    | _ n ih =>
      intro x1 x2 M H locs ls hI hH hl
      exact wX5_wrong_b25 hF hSt hret (fun x1 x2 M H locs ls h hH hl => by obtain ⟨k, hk, hI⟩ := h; exact ih k hk x1 x2 M H locs ls hI hH hl) x1 x2 M H locs ls hH hl (hs n x1 x2 M hI)
  exact key n x1 x2 M H locs ls hI hH hl
def pX5_wrong (M : zM)  (post : Int32 → zM → Prop) : Prop :=
  pX2_spreadVectors M (M.1 1 5) (fun M11 => pX2_spreadBytes M11  (fun M18 => pX5_wrong_L25 post (0 : Int32) (1 : Int32) M18))
set_option maxHeartbeats 4000000 in
set_option maxRecDepth 100000 in
theorem wX5_wrong {M : zM} {post : Int32 → zM → Prop} (hF : CallFix p m c cX5_wrong 3 s args wsX5_wrong RX5) (hSt : zSt G s) (hret : zRi p l e ({ frames := 4, cells := 0, slots := 0, locals := 102 } : Room) s m args below meth c Q cX5_wrong G true O post)  (H : Heap) (locs : List Loc) (ls : Array Slot) (hH : zH G true s H locs M O) (hl : lv_has ls 3 [(0, .ref (G.1 0))]) (h : pX5_wrong M  post) : W p l e ({ frames := 4, cells := 0, slots := 0, locals := 102 } : Room) s m args below meth c H locs 0 0 Q (F0 m 0 ls []) := by
  obtain ⟨hx, hb, hml, hown, hts⟩ := id hF
  unfold pX5_wrong at h
  refine lv_aload_n hx hb dX5_wrong_0 rfl (lv_at hl 0 rfl) ?_
  refine zget (v := .ref (G.1 1)) hF hSt hH 0 (by decide) rfl (zE_0 _ _ _) (C := RX5) (T := TX5) (N := 5) rfl znX5_wrong_X5 0 (by decide) (List.mem_of_getElem? (i := 1) rfl) rfl dX5_wrong_1 ?_
  refine lv_aload_n hx hb dX5_wrong_4 rfl (lv_at hl 0 rfl) ?_
  refine zget (v := .ref (G.1 1)) hF hSt hH 0 (by decide) rfl (zE_0 _ _ _) (C := RX5) (T := TX5) (N := 5) rfl znX5_wrong_X5 0 (by decide) (List.mem_of_getElem? (i := 1) rfl) rfl dX5_wrong_5 ?_
  refine zget (v := .int (M.1 1 5)) hF hSt hH 1 (by decide) rfl (zE_1 _ _ _) (C := RX2) (T := TX2) (N := 16) rfl znX5_wrong_X2 5 (by decide) (List.mem_of_getElem? (i := 2) rfl) rfl dX5_wrong_8 ?_
  refine zcallv hH (va_runV (As := [.int (M.1 1 5)]) (rest := []) hF (kX2_spreadVectors l G M O (M.1 1 5) _ h) (cwV 1 hts gX5_wrong_X2_spreadVectors rfl rfl rfl ⟨rfl, zdX2_spreadVectors⟩ ⟨Nat.le_of_ble_eq_true rfl, Nat.le_of_ble_eq_true rfl⟩) (zpreV hSt hH 1 (by decide) rfl (zE_1 _ _ _) (q := (RX2, TX2, 16)) rfl [.int (M.1 1 5)]) rfl rfl hl.1 rfl (lv_room (Nat.le_of_ble_eq_true rfl)) dX5_wrong_11 ⟨Nat.zero_le _, Nat.zero_le _⟩) (fun M11 H locs h hH => ?_)
  refine lv_aload_n hx hb dX5_wrong_14 rfl (lv_at hl 0 rfl) ?_
  refine zget (v := .ref (G.1 1)) hF hSt hH 0 (by decide) rfl (zE_0 _ _ _) (C := RX5) (T := TX5) (N := 5) rfl znX5_wrong_X5 0 (by decide) (List.mem_of_getElem? (i := 1) rfl) rfl dX5_wrong_15 ?_
  refine zcallv hH (va_runV (As := []) (rest := []) hF (kX2_spreadBytes l G M11 O _ h) (cwV 0 hts gX5_wrong_X2_spreadBytes rfl rfl rfl ⟨rfl, zdX2_spreadBytes⟩ ⟨Nat.le_of_ble_eq_true rfl, Nat.le_of_ble_eq_true rfl⟩) (zpreV hSt hH 1 (by decide) rfl (zE_1 _ _ _) (q := (RX2, TX2, 16)) rfl []) rfl rfl hl.1 rfl (lv_room (Nat.le_of_ble_eq_true rfl)) dX5_wrong_18 ⟨Nat.zero_le _, Nat.zero_le _⟩) (fun M18 H locs h hH => ?_)
  refine lv_iconst (v := (0 : Int32)) hx hb dX5_wrong_21 (by decide) ?_
  refine lv_istore_n (lv' := [(1, .int (0 : Int32)), (0, .ref (G.1 0))]) hx hb dX5_wrong_22 rfl hl (by decide) rfl (fun ls hl => ?_)
  refine lv_iconst (v := (1 : Int32)) hx hb dX5_wrong_23 (by decide) ?_
  refine lv_istore_n (lv' := [(2, .int (1 : Int32)), (1, .int (0 : Int32)), (0, .ref (G.1 0))]) hx hb dX5_wrong_24 rfl hl (by decide) rfl (fun ls hl => ?_)
  exact wX5_wrong_L25 hF hSt hret (0 : Int32) (1 : Int32) M18 H locs ls hH (lv_sub hl [2, 1, 0] rfl) h
set_option maxRecDepth 100000 in
theorem kX5_wrong (l : Launch) (G : zG) (M O : zM)  (post : Int32 → zM → Prop) (h : pX5_wrong M  post) : Met l yX5_wrong wsX5_wrong ({ frames := 4, cells := 0, slots := 0, locals := 102 } : Room) (zPc G true M O [.ref (G.1 0)]) (va_Qi post (zB G true O) (zAA G)) 0 0 (zAA G) :=
  zmet_i (by decide) rfl (Nat.le_of_ble_eq_true rfl) (fun hF hSt hret H locs ls hH hl => wX5_wrong hF hSt hret  H locs ls hH hl h)
end
