theorem znX6_rate_X6 : ∀ w ∈ wsX60, w ∈ wsX6_rate := fun _ h => List.mem_cons_of_mem _ (List.mem_append_right _ h)
theorem zdX6_rate : yX6_rate.cls ≠ "java/lang/invoke/MethodHandle" ∧ yX6_rate.cls ≠ "java/lang/invoke/VarHandle" ∧ (parseMethodDescriptor yX6_rate.desc).map (fun d => d.parameters.length) = some 0 := by decide +kernel
-- MixingRelaysModel rate()I
section
variable {p : Program} {l : Launch} {e : Env} {s : State} {m : MethodId} {args : Array Value} {below : List Frame} {meth : Method} {c : Code} {Q : State → Prop} {G : zG} {O : zM}
def pX6_rate_b62 (post : Int32 → zM → Prop) (t0 : Int32) (M : zM) : Prop :=
  post t0 M
set_option maxHeartbeats 4000000 in
set_option maxRecDepth 100000 in
theorem wX6_rate_b62 {post : Int32 → zM → Prop}  (hF : CallFix p m c cX6_rate 4 s args wsX6_rate RX6) (hSt : zSt G s) (hret : zRi p l e ({ frames := 2, cells := 0, slots := 0, locals := 48 } : Room) s m args below meth c Q cX6_rate G false O post) (t0 : Int32) (M : zM) (H : Heap) (locs : List Loc) (ls : Array Slot) (hH : zH G false s H locs M O) (hl : lv_has ls 4 []) (h : pX6_rate_b62 post t0 M) : W p l e ({ frames := 2, cells := 0, slots := 0, locals := 48 } : Room) s m args below meth c H locs 0 0 Q (F0 m 62 ls [.int t0]) := by
  obtain ⟨hx, hb, hml, hown, hts⟩ := id hF
  unfold pX6_rate_b62 at h
  exact hret _ _ _ _ _ _ dX6_rate_62 h hH
def pX6_rate_b46 (post : Int32 → zM → Prop) (ag4 : Int32 → Int32 → zM → Prop) (x1 : Int32) (x2 : Int32) (M : zM) : Prop :=
  ag4 x1 (x2 + (1 : Int32)) M
set_option maxHeartbeats 4000000 in
set_option maxRecDepth 100000 in
theorem wX6_rate_b46 {post : Int32 → zM → Prop} {ag4 : Int32 → Int32 → zM → Prop} (hF : CallFix p m c cX6_rate 4 s args wsX6_rate RX6) (hSt : zSt G s) (hret : zRi p l e ({ frames := 2, cells := 0, slots := 0, locals := 48 } : Room) s m args below meth c Q cX6_rate G false O post) (hag4 : ∀ (x1 : Int32) (x2 : Int32) (M : zM) (H : Heap) (locs : List Loc) (ls : Array Slot), ag4 x1 x2 M → zH G false s H locs M O → lv_has ls 4 [(0, .ref (G.1 21)), (1, .int x1), (2, .int x2)] → W p l e ({ frames := 2, cells := 0, slots := 0, locals := 48 } : Room) s m args below meth c H locs 0 0 Q (F0 m 4 ls [])) (x1 : Int32) (x2 : Int32) (M : zM) (H : Heap) (locs : List Loc) (ls : Array Slot) (hH : zH G false s H locs M O) (hl : lv_has ls 4 [(0, .ref (G.1 21)), (1, .int x1), (2, .int x2)]) (h : pX6_rate_b46 post ag4 x1 x2 M) : W p l e ({ frames := 2, cells := 0, slots := 0, locals := 48 } : Room) s m args below meth c H locs 0 0 Q (F0 m 46 ls []) := by
  obtain ⟨hx, hb, hml, hown, hts⟩ := id hF
  unfold pX6_rate_b46 at h
  refine lv_iinc (v := (x2 + (1 : Int32))) (lv' := [(2, .int (x2 + (1 : Int32))), (0, .ref (G.1 21)), (1, .int x1)]) hx hb dX6_rate_46 hl (k := 2) rfl rfl (by decide) rfl (fun ls hl => ?_)
  refine lv_goto (tgt := 4) hx hb dX6_rate_49 (by decide) ?_
  exact hag4 x1 (x2 + (1 : Int32)) M H locs ls h hH (lv_sub hl [1, 2, 0] rfl)
def pX6_rate_b45 (post : Int32 → zM → Prop) (ag4 : Int32 → Int32 → zM → Prop) (x2 : Int32) (t0 : Int32) (M : zM) : Prop :=
  pX6_rate_b46 post ag4 t0 x2 M
set_option maxHeartbeats 4000000 in
set_option maxRecDepth 100000 in
theorem wX6_rate_b45 {post : Int32 → zM → Prop} {ag4 : Int32 → Int32 → zM → Prop} (hF : CallFix p m c cX6_rate 4 s args wsX6_rate RX6) (hSt : zSt G s) (hret : zRi p l e ({ frames := 2, cells := 0, slots := 0, locals := 48 } : Room) s m args below meth c Q cX6_rate G false O post) (hag4 : ∀ (x1 : Int32) (x2 : Int32) (M : zM) (H : Heap) (locs : List Loc) (ls : Array Slot), ag4 x1 x2 M → zH G false s H locs M O → lv_has ls 4 [(0, .ref (G.1 21)), (1, .int x1), (2, .int x2)] → W p l e ({ frames := 2, cells := 0, slots := 0, locals := 48 } : Room) s m args below meth c H locs 0 0 Q (F0 m 4 ls [])) (x2 : Int32) (t0 : Int32) (M : zM) (H : Heap) (locs : List Loc) (ls : Array Slot) (hH : zH G false s H locs M O) (hl : lv_has ls 4 [(0, .ref (G.1 21)), (2, .int x2)]) (h : pX6_rate_b45 post ag4 x2 t0 M) : W p l e ({ frames := 2, cells := 0, slots := 0, locals := 48 } : Room) s m args below meth c H locs 0 0 Q (F0 m 45 ls [.int t0]) := by
  obtain ⟨hx, hb, hml, hown, hts⟩ := id hF
  unfold pX6_rate_b45 at h
  refine lv_istore_n (lv' := [(1, .int t0), (0, .ref (G.1 21)), (2, .int x2)]) hx hb dX6_rate_45 rfl hl (by decide) rfl (fun ls hl => ?_)
  exact wX6_rate_b46 hF hSt hret hag4 t0 x2 M H locs ls hH (lv_sub hl [1, 0, 2] rfl) h
def pX6_rate_b40 (post : Int32 → zM → Prop) (ag4 : Int32 → Int32 → zM → Prop) (x2 : Int32) (x3 : Int32) (M : zM) : Prop :=
  pX6_rate_b45 post ag4 x2 x3 M
set_option maxHeartbeats 4000000 in
set_option maxRecDepth 100000 in
theorem wX6_rate_b40 {post : Int32 → zM → Prop} {ag4 : Int32 → Int32 → zM → Prop} (hF : CallFix p m c cX6_rate 4 s args wsX6_rate RX6) (hSt : zSt G s) (hret : zRi p l e ({ frames := 2, cells := 0, slots := 0, locals := 48 } : Room) s m args below meth c Q cX6_rate G false O post) (hag4 : ∀ (x1 : Int32) (x2 : Int32) (M : zM) (H : Heap) (locs : List Loc) (ls : Array Slot), ag4 x1 x2 M → zH G false s H locs M O → lv_has ls 4 [(0, .ref (G.1 21)), (1, .int x1), (2, .int x2)] → W p l e ({ frames := 2, cells := 0, slots := 0, locals := 48 } : Room) s m args below meth c H locs 0 0 Q (F0 m 4 ls [])) (x2 : Int32) (x3 : Int32) (M : zM) (H : Heap) (locs : List Loc) (ls : Array Slot) (hH : zH G false s H locs M O) (hl : lv_has ls 4 [(0, .ref (G.1 21)), (2, .int x2), (3, .int x3)]) (h : pX6_rate_b40 post ag4 x2 x3 M) : W p l e ({ frames := 2, cells := 0, slots := 0, locals := 48 } : Room) s m args below meth c H locs 0 0 Q (F0 m 40 ls []) := by
  obtain ⟨hx, hb, hml, hown, hts⟩ := id hF
  unfold pX6_rate_b40 at h
  refine lv_iload_n hx hb dX6_rate_40 rfl (lv_at hl 2 rfl) ?_
  refine lv_goto (tgt := 45) hx hb dX6_rate_41 (by decide) ?_
  exact wX6_rate_b45 hF hSt hret hag4 x2 x3 M H locs ls hH (lv_sub hl [0, 1] rfl) h
def pX6_rate_b4 (post : Int32 → zM → Prop) (ag4 : Int32 → Int32 → zM → Prop) (x1 : Int32) (x2 : Int32) (M : zM) : Prop :=
  ((M.1 21 1) ≤ x2 → (¬ (x1 = (-1 : Int32)) → pX6_rate_b62 post x1 M) ∧ (x1 = (-1 : Int32) → pX6_rate_b62 post (0 : Int32) M)) ∧ (¬ ((M.1 21 1) ≤ x2) → vp_in x2 12 ∧ (¬ ((M.1 23 x2.toNatClampNeg) = 0) → pX6_flowOf M x2 (fun r26 M26 => (x1 = (-1 : Int32) → pX6_rate_b40 post ag4 x2 r26 M26) ∧ (¬ (x1 = (-1 : Int32)) → (x1 ≤ r26 → pX6_rate_b45 post ag4 x2 x1 M26) ∧ (¬ (x1 ≤ r26) → pX6_rate_b40 post ag4 x2 r26 M26)))) ∧ ((M.1 23 x2.toNatClampNeg) = 0 → pX6_rate_b46 post ag4 x1 x2 M))
set_option maxHeartbeats 4000000 in
set_option maxRecDepth 100000 in
theorem wX6_rate_b4 {post : Int32 → zM → Prop} {ag4 : Int32 → Int32 → zM → Prop} (hF : CallFix p m c cX6_rate 4 s args wsX6_rate RX6) (hSt : zSt G s) (hret : zRi p l e ({ frames := 2, cells := 0, slots := 0, locals := 48 } : Room) s m args below meth c Q cX6_rate G false O post) (hag4 : ∀ (x1 : Int32) (x2 : Int32) (M : zM) (H : Heap) (locs : List Loc) (ls : Array Slot), ag4 x1 x2 M → zH G false s H locs M O → lv_has ls 4 [(0, .ref (G.1 21)), (1, .int x1), (2, .int x2)] → W p l e ({ frames := 2, cells := 0, slots := 0, locals := 48 } : Room) s m args below meth c H locs 0 0 Q (F0 m 4 ls [])) (x1 : Int32) (x2 : Int32) (M : zM) (H : Heap) (locs : List Loc) (ls : Array Slot) (hH : zH G false s H locs M O) (hl : lv_has ls 4 [(0, .ref (G.1 21)), (1, .int x1), (2, .int x2)]) (h : pX6_rate_b4 post ag4 x1 x2 M) : W p l e ({ frames := 2, cells := 0, slots := 0, locals := 48 } : Room) s m args below meth c H locs 0 0 Q (F0 m 4 ls []) := by
  obtain ⟨hx, hb, hml, hown, hts⟩ := id hF
  unfold pX6_rate_b4 at h
  refine lv_iload_n hx hb dX6_rate_4 rfl (lv_at hl 2 rfl) ?_
  refine lv_aload_n hx hb dX6_rate_5 rfl (lv_at hl 0 rfl) ?_
  refine zget (v := .int (M.1 21 1)) hF hSt hH 21 (by decide) rfl (zE_21 _ _ _) (C := RX6) (T := TX6) (N := 31) rfl znX6_rate_X6 1 (by decide) (List.mem_of_getElem? (i := 1) rfl) rfl dX6_rate_6 ?_
  refine lv_icmp_ge (tgt := 52) hx hb dX6_rate_9 (by decide) (fun q9 => ?_) (fun q9 => ?_)
  · have h := h.1 q9
    refine lv_iload_n hx hb dX6_rate_52 rfl (lv_at hl 1 rfl) ?_
    refine lv_iconst (v := (-1 : Int32)) hx hb dX6_rate_53 (by decide) ?_
    refine lv_icmp_ne (tgt := 61) hx hb dX6_rate_54 (by decide) (fun q54 => ?_) (fun q54 => ?_)
    · have h := h.1 q54
      refine lv_iload_n hx hb dX6_rate_61 rfl (lv_at hl 1 rfl) ?_
      exact wX6_rate_b62 hF hSt hret x1 M H locs ls hH (lv_sub hl [] rfl) h
    · have h := h.2 q54
      refine lv_iconst (v := (0 : Int32)) hx hb dX6_rate_57 (by decide) ?_
      refine lv_goto (tgt := 62) hx hb dX6_rate_58 (by decide) ?_
      exact wX6_rate_b62 hF hSt hret (0 : Int32) M H locs ls hH (lv_sub hl [] rfl) h
  · have h := h.2 q9
    refine lv_aload_n hx hb dX6_rate_12 rfl (lv_at hl 0 rfl) ?_
    refine zget (v := .ref (G.1 23)) hF hSt hH 21 (by decide) rfl (zE_21 _ _ _) (C := RX6) (T := TX6) (N := 31) rfl znX6_rate_X6 5 (by decide) (List.mem_of_getElem? (i := 2) rfl) rfl dX6_rate_13 ?_
    refine lv_iload_n hx hb dX6_rate_16 rfl (lv_at hl 2 rfl) ?_
    obtain ⟨q17, h⟩ := h
    refine zzald hF hSt hH 23 (by decide) rfl (zE_23 _ _ _) q17 dX6_rate_17 ?_
    refine lv_if_ne (tgt := 24) hx hb dX6_rate_18 (by decide) (fun q18 => ?_) (fun q18 => ?_)
    · have h := h.1 q18
      refine lv_aload_n hx hb dX6_rate_24 rfl (lv_at hl 0 rfl) ?_
      refine lv_iload_n hx hb dX6_rate_25 rfl (lv_at hl 2 rfl) ?_
      refine zcalli hH (va_runV (As := [.int x2]) (rest := []) hF (kX6_flowOf l G M O x2 _ h) (cwV 1 hts gX6_rate_X6_flowOf rfl rfl rfl ⟨rfl, zdX6_flowOf⟩ ⟨Nat.le_of_ble_eq_true rfl, Nat.le_of_ble_eq_true rfl⟩) (zpreV hSt hH 21 (by decide) rfl (zE_21 _ _ _) (q := (RX6, TX6, 31)) rfl [.int x2]) rfl rfl hl.1 rfl (lv_room (Nat.le_of_ble_eq_true rfl)) dX6_rate_26 ⟨Nat.zero_le _, Nat.zero_le _⟩) (fun r26 M26 H locs h hH => ?_)
      refine lv_istore_n (lv' := [(3, .int r26), (0, .ref (G.1 21)), (1, .int x1), (2, .int x2)]) hx hb dX6_rate_29 rfl hl (by decide) rfl (fun ls hl => ?_)
      refine lv_iload_n hx hb dX6_rate_30 rfl (lv_at hl 2 rfl) ?_
      refine lv_iconst (v := (-1 : Int32)) hx hb dX6_rate_31 (by decide) ?_
      refine lv_icmp_eq (tgt := 40) hx hb dX6_rate_32 (by decide) (fun q32 => ?_) (fun q32 => ?_)
      · have h := h.1 q32
        exact wX6_rate_b40 hF hSt hret hag4 x2 r26 M26 H locs ls hH (lv_sub hl [1, 3, 0] rfl) h
      · have h := h.2 q32
        refine lv_iload_n hx hb dX6_rate_35 rfl (lv_at hl 0 rfl) ?_
        refine lv_iload_n hx hb dX6_rate_36 rfl (lv_at hl 2 rfl) ?_
        refine lv_icmp_ge (tgt := 44) hx hb dX6_rate_37 (by decide) (fun q37 => ?_) (fun q37 => ?_)
        · have h := h.1 q37
          refine lv_iload_n hx hb dX6_rate_44 rfl (lv_at hl 2 rfl) ?_
          exact wX6_rate_b45 hF hSt hret hag4 x2 x1 M26 H locs ls hH (lv_sub hl [1, 3] rfl) h
        · have h := h.2 q37
          exact wX6_rate_b40 hF hSt hret hag4 x2 r26 M26 H locs ls hH (lv_sub hl [1, 3, 0] rfl) h
    · have h := h.2 q18
      refine lv_goto (tgt := 46) hx hb dX6_rate_21 (by decide) ?_
      exact wX6_rate_b46 hF hSt hret hag4 x1 x2 M H locs ls hH (lv_sub hl [0, 1, 2] rfl) h
def pX6_rate_L4 (post : Int32 → zM → Prop) (x1 : Int32) (x2 : Int32) (M : zM) : Prop :=
  ∃ I : Nat → Int32 → Int32 → zM → Prop, (∃ n, I n x1 x2 M) ∧ ∀ n x1 x2 M, I n x1 x2 M → pX6_rate_b4 post (fun x1 x2 M => ∃ k, k < n ∧ I k x1 x2 M) x1 x2 M
set_option maxHeartbeats 4000000 in
theorem wX6_rate_L4 {post : Int32 → zM → Prop}  (hF : CallFix p m c cX6_rate 4 s args wsX6_rate RX6) (hSt : zSt G s) (hret : zRi p l e ({ frames := 2, cells := 0, slots := 0, locals := 48 } : Room) s m args below meth c Q cX6_rate G false O post) (x1 : Int32) (x2 : Int32) (M : zM) (H : Heap) (locs : List Loc) (ls : Array Slot) (hH : zH G false s H locs M O) (hl : lv_has ls 4 [(0, .ref (G.1 21)), (1, .int x1), (2, .int x2)]) (h : pX6_rate_L4 post x1 x2 M) : W p l e ({ frames := 2, cells := 0, slots := 0, locals := 48 } : Room) s m args below meth c H locs 0 0 Q (F0 m 4 ls []) := by
  obtain ⟨I, ⟨n, hI⟩, hs⟩ := h
  have key : ∀ (n : Nat) (x1 : Int32) (x2 : Int32) (M : zM) (H : Heap) (locs : List Loc) (ls : Array Slot), I n x1 x2 M → zH G false s H locs M O → lv_has ls 4 [(0, .ref (G.1 21)), (1, .int x1), (2, .int x2)] → W p l e ({ frames := 2, cells := 0, slots := 0, locals := 48 } : Room) s m args below meth c H locs 0 0 Q (F0 m 4 ls []) := by
    intro n
    induction n using Nat.strongRecOn with
    | _ n ih =>
      intro x1 x2 M H locs ls hI hH hl
      exact wX6_rate_b4 hF hSt hret (fun x1 x2 M H locs ls h hH hl => by obtain ⟨k, hk, hI⟩ := h; exact ih k hk x1 x2 M H locs ls hI hH hl) x1 x2 M H locs ls hH hl (hs n x1 x2 M hI)
  exact key n x1 x2 M H locs ls hI hH hl
def pX6_rate (M : zM)  (post : Int32 → zM → Prop) : Prop :=
  pX6_rate_L4 post (-1 : Int32) (1 : Int32) M
set_option maxHeartbeats 4000000 in
set_option maxRecDepth 100000 in
theorem wX6_rate {M : zM} {post : Int32 → zM → Prop} (hF : CallFix p m c cX6_rate 4 s args wsX6_rate RX6) (hSt : zSt G s) (hret : zRi p l e ({ frames := 2, cells := 0, slots := 0, locals := 48 } : Room) s m args below meth c Q cX6_rate G false O post)  (H : Heap) (locs : List Loc) (ls : Array Slot) (hH : zH G false s H locs M O) (hl : lv_has ls 4 [(0, .ref (G.1 21))]) (h : pX6_rate M  post) : W p l e ({ frames := 2, cells := 0, slots := 0, locals := 48 } : Room) s m args below meth c H locs 0 0 Q (F0 m 0 ls []) := by
  obtain ⟨hx, hb, hml, hown, hts⟩ := id hF
  unfold pX6_rate at h
  refine lv_iconst (v := (-1 : Int32)) hx hb dX6_rate_0 (by decide) ?_
  refine lv_istore_n (lv' := [(1, .int (-1 : Int32)), (0, .ref (G.1 21))]) hx hb dX6_rate_1 rfl hl (by decide) rfl (fun ls hl => ?_)
  refine lv_iconst (v := (1 : Int32)) hx hb dX6_rate_2 (by decide) ?_
  refine lv_istore_n (lv' := [(2, .int (1 : Int32)), (1, .int (-1 : Int32)), (0, .ref (G.1 21))]) hx hb dX6_rate_3 rfl hl (by decide) rfl (fun ls hl => ?_)
  exact wX6_rate_L4 hF hSt hret (-1 : Int32) (1 : Int32) M H locs ls hH (lv_sub hl [2, 1, 0] rfl) h
set_option maxRecDepth 100000 in
theorem kX6_rate (l : Launch) (G : zG) (M O : zM)  (post : Int32 → zM → Prop) (h : pX6_rate M  post) : Met l yX6_rate wsX6_rate ({ frames := 2, cells := 0, slots := 0, locals := 48 } : Room) (zPc G false M O [.ref (G.1 21)]) (va_Qi post (zB G false O) (zAA G)) 0 0 (zAA G) :=
  zmet_i (by decide) rfl (Nat.le_of_ble_eq_true rfl) (fun hF hSt hret H locs ls hH hl => wX6_rate hF hSt hret  H locs ls hH hl h)
end
theorem znX6_lineIn_X6 : ∀ w ∈ wsX60, w ∈ wsX6_lineIn := fun _ h => List.mem_cons_of_mem _ (List.mem_append_right _ h)
theorem zdX6_lineIn : yX6_lineIn.cls ≠ "java/lang/invoke/MethodHandle" ∧ yX6_lineIn.cls ≠ "java/lang/invoke/VarHandle" ∧ (parseMethodDescriptor yX6_lineIn.desc).map (fun d => d.parameters.length) = some 2 := by decide +kernel
-- MixingRelaysModel lineIn(II)I
section
variable {p : Program} {l : Launch} {e : Env} {s : State} {m : MethodId} {args : Array Value} {below : List Frame} {meth : Method} {c : Code} {Q : State → Prop} {G : zG} {O : zM}
def pX6_lineIn_b38 (M : zM) (post : Int32 → Prop) (ag5 : Int32 → Int32 → Int32 → Prop) (x1 : Int32) (x3 : Int32) (x4 : Int32) : Prop :=
  ag5 x1 x3 (x4 + (1 : Int32))
set_option maxHeartbeats 4000000 in
set_option maxRecDepth 100000 in
theorem wX6_lineIn_b38 {M : zM} {post : Int32 → Prop} {ag5 : Int32 → Int32 → Int32 → Prop} (hF : CallFix p m c cX6_lineIn 5 s args wsX6_lineIn RX6) (hSt : zSt G s) (hret : zRi p l e ({ frames := 0, cells := 0, slots := 0, locals := 0 } : Room) s m args below meth c Q cX6_lineIn G false O (fun r M1 => M1 = M ∧ post r)) (hag5 : ∀ (x1 : Int32) (x3 : Int32) (x4 : Int32) (H : Heap) (locs : List Loc) (ls : Array Slot), ag5 x1 x3 x4 → zH G false s H locs M O → lv_has ls 5 [(0, .ref (G.1 21)), (1, .int x1), (3, .int x3), (4, .int x4)] → W p l e ({ frames := 0, cells := 0, slots := 0, locals := 0 } : Room) s m args below meth c H locs 0 0 Q (F0 m 5 ls [])) (x1 : Int32) (x3 : Int32) (x4 : Int32) (H : Heap) (locs : List Loc) (ls : Array Slot) (hH : zH G false s H locs M O) (hl : lv_has ls 5 [(0, .ref (G.1 21)), (1, .int x1), (3, .int x3), (4, .int x4)]) (h : pX6_lineIn_b38 M post ag5 x1 x3 x4) : W p l e ({ frames := 0, cells := 0, slots := 0, locals := 0 } : Room) s m args below meth c H locs 0 0 Q (F0 m 38 ls []) := by
  obtain ⟨hx, hb, hml, hown, hts⟩ := id hF
  unfold pX6_lineIn_b38 at h
  refine lv_iinc (v := (x4 + (1 : Int32))) (lv' := [(4, .int (x4 + (1 : Int32))), (0, .ref (G.1 21)), (1, .int x1), (3, .int x3)]) hx hb dX6_lineIn_38 hl (k := 3) rfl rfl (by decide) rfl (fun ls hl => ?_)
  refine lv_goto (tgt := 5) hx hb dX6_lineIn_41 (by decide) ?_
  exact hag5 x1 x3 (x4 + (1 : Int32)) H locs ls h hH (lv_sub hl [1, 2, 3, 0] rfl)
def pX6_lineIn_b5 (M : zM) (post : Int32 → Prop) (ag5 : Int32 → Int32 → Int32 → Prop) (x1 : Int32) (x3 : Int32) (x4 : Int32) : Prop :=
  ((M.1 21 2) ≤ x4 → post (-1 : Int32)) ∧ (¬ ((M.1 21 2) ≤ x4) → vp_in x4 30 ∧ ((M.1 25 x4.toNatClampNeg) = x1 → (¬ (x3 = 0) → pX6_lineIn_b38 M post ag5 x1 (x3 + (-1 : Int32)) x4) ∧ (x3 = 0 → post x4)) ∧ (¬ ((M.1 25 x4.toNatClampNeg) = x1) → pX6_lineIn_b38 M post ag5 x1 x3 x4))
set_option maxHeartbeats 4000000 in
set_option maxRecDepth 100000 in
theorem wX6_lineIn_b5 {M : zM} {post : Int32 → Prop} {ag5 : Int32 → Int32 → Int32 → Prop} (hF : CallFix p m c cX6_lineIn 5 s args wsX6_lineIn RX6) (hSt : zSt G s) (hret : zRi p l e ({ frames := 0, cells := 0, slots := 0, locals := 0 } : Room) s m args below meth c Q cX6_lineIn G false O (fun r M1 => M1 = M ∧ post r)) (hag5 : ∀ (x1 : Int32) (x3 : Int32) (x4 : Int32) (H : Heap) (locs : List Loc) (ls : Array Slot), ag5 x1 x3 x4 → zH G false s H locs M O → lv_has ls 5 [(0, .ref (G.1 21)), (1, .int x1), (3, .int x3), (4, .int x4)] → W p l e ({ frames := 0, cells := 0, slots := 0, locals := 0 } : Room) s m args below meth c H locs 0 0 Q (F0 m 5 ls [])) (x1 : Int32) (x3 : Int32) (x4 : Int32) (H : Heap) (locs : List Loc) (ls : Array Slot) (hH : zH G false s H locs M O) (hl : lv_has ls 5 [(0, .ref (G.1 21)), (1, .int x1), (3, .int x3), (4, .int x4)]) (h : pX6_lineIn_b5 M post ag5 x1 x3 x4) : W p l e ({ frames := 0, cells := 0, slots := 0, locals := 0 } : Room) s m args below meth c H locs 0 0 Q (F0 m 5 ls []) := by
  obtain ⟨hx, hb, hml, hown, hts⟩ := id hF
  unfold pX6_lineIn_b5 at h
  refine lv_iload hx hb dX6_lineIn_5 (lv_at hl 3 rfl) ?_
  refine lv_aload_n hx hb dX6_lineIn_7 rfl (lv_at hl 0 rfl) ?_
  refine zget (v := .int (M.1 21 2)) hF hSt hH 21 (by decide) rfl (zE_21 _ _ _) (C := RX6) (T := TX6) (N := 31) rfl znX6_lineIn_X6 2 (by decide) (List.mem_of_getElem? (i := 1) rfl) rfl dX6_lineIn_8 ?_
  refine lv_icmp_ge (tgt := 44) hx hb dX6_lineIn_11 (by decide) (fun q11 => ?_) (fun q11 => ?_)
  · have h := h.1 q11
    refine lv_iconst (v := (-1 : Int32)) hx hb dX6_lineIn_44 (by decide) ?_
    exact hret _ _ _ _ _ _ dX6_lineIn_45 ⟨rfl, h⟩ hH
  · have h := h.2 q11
    refine lv_aload_n hx hb dX6_lineIn_14 rfl (lv_at hl 0 rfl) ?_
    refine zget (v := .ref (G.1 25)) hF hSt hH 21 (by decide) rfl (zE_21 _ _ _) (C := RX6) (T := TX6) (N := 31) rfl znX6_lineIn_X6 7 (by decide) (List.mem_of_getElem? (i := 2) rfl) rfl dX6_lineIn_15 ?_
    refine lv_iload hx hb dX6_lineIn_18 (lv_at hl 3 rfl) ?_
    obtain ⟨q20, h⟩ := h
    refine zald hF hSt hH 25 (by decide) rfl (zE_25 _ _ _) q20 dX6_lineIn_20 ?_
    refine lv_iload_n hx hb dX6_lineIn_21 rfl (lv_at hl 1 rfl) ?_
    refine lv_icmp_eq (tgt := 28) hx hb dX6_lineIn_22 (by decide) (fun q22 => ?_) (fun q22 => ?_)
    · have h := h.1 q22
      refine lv_iload_n hx hb dX6_lineIn_28 rfl (lv_at hl 2 rfl) ?_
      refine lv_if_ne (tgt := 35) hx hb dX6_lineIn_29 (by decide) (fun q29 => ?_) (fun q29 => ?_)
      · have h := h.1 q29
        refine lv_iinc (v := (x3 + (-1 : Int32))) (lv' := [(3, .int (x3 + (-1 : Int32))), (0, .ref (G.1 21)), (1, .int x1), (4, .int x4)]) hx hb dX6_lineIn_35 hl (k := 2) rfl rfl (by decide) rfl (fun ls hl => ?_)
        exact wX6_lineIn_b38 hF hSt hret hag5 x1 (x3 + (-1 : Int32)) x4 H locs ls hH (lv_sub hl [1, 2, 0, 3] rfl) h
      · have h := h.2 q29
        refine lv_iload hx hb dX6_lineIn_32 (lv_at hl 3 rfl) ?_
        exact hret _ _ _ _ _ _ dX6_lineIn_34 ⟨rfl, h⟩ hH
    · have h := h.2 q22
      refine lv_goto (tgt := 38) hx hb dX6_lineIn_25 (by decide) ?_
      exact wX6_lineIn_b38 hF hSt hret hag5 x1 x3 x4 H locs ls hH (lv_sub hl [0, 1, 2, 3] rfl) h
def pX6_lineIn_L5 (M : zM) (post : Int32 → Prop) (x1 : Int32) (x3 : Int32) (x4 : Int32) : Prop :=
  ∃ I : Nat → Int32 → Int32 → Int32 → Prop, (∃ n, I n x1 x3 x4) ∧ ∀ n x1 x3 x4, I n x1 x3 x4 → pX6_lineIn_b5 M post (fun x1 x3 x4 => ∃ k, k < n ∧ I k x1 x3 x4) x1 x3 x4
set_option maxHeartbeats 4000000 in
theorem wX6_lineIn_L5 {M : zM} {post : Int32 → Prop}  (hF : CallFix p m c cX6_lineIn 5 s args wsX6_lineIn RX6) (hSt : zSt G s) (hret : zRi p l e ({ frames := 0, cells := 0, slots := 0, locals := 0 } : Room) s m args below meth c Q cX6_lineIn G false O (fun r M1 => M1 = M ∧ post r)) (x1 : Int32) (x3 : Int32) (x4 : Int32) (H : Heap) (locs : List Loc) (ls : Array Slot) (hH : zH G false s H locs M O) (hl : lv_has ls 5 [(0, .ref (G.1 21)), (1, .int x1), (3, .int x3), (4, .int x4)]) (h : pX6_lineIn_L5 M post x1 x3 x4) : W p l e ({ frames := 0, cells := 0, slots := 0, locals := 0 } : Room) s m args below meth c H locs 0 0 Q (F0 m 5 ls []) := by
  obtain ⟨I, ⟨n, hI⟩, hs⟩ := h
  have key : ∀ (n : Nat) (x1 : Int32) (x3 : Int32) (x4 : Int32) (H : Heap) (locs : List Loc) (ls : Array Slot), I n x1 x3 x4 → zH G false s H locs M O → lv_has ls 5 [(0, .ref (G.1 21)), (1, .int x1), (3, .int x3), (4, .int x4)] → W p l e ({ frames := 0, cells := 0, slots := 0, locals := 0 } : Room) s m args below meth c H locs 0 0 Q (F0 m 5 ls []) := by
    intro n
    induction n using Nat.strongRecOn with
    | _ n ih =>
      intro x1 x3 x4 H locs ls hI hH hl
      exact wX6_lineIn_b5 hF hSt hret (fun x1 x3 x4 H locs ls h hH hl => by obtain ⟨k, hk, hI⟩ := h; exact ih k hk x1 x3 x4 H locs ls hI hH hl) x1 x3 x4 H locs ls hH hl (hs n x1 x3 x4 hI)
  exact key n x1 x3 x4 H locs ls hI hH hl
def pX6_lineIn (M : zM) (x1 : Int32) (x2 : Int32) (post : Int32 → Prop) : Prop :=
  pX6_lineIn_L5 M post x1 x2 (0 : Int32)
set_option maxHeartbeats 4000000 in
set_option maxRecDepth 100000 in
theorem wX6_lineIn {M : zM} {post : Int32 → Prop} (hF : CallFix p m c cX6_lineIn 5 s args wsX6_lineIn RX6) (hSt : zSt G s) (hret : zRi p l e ({ frames := 0, cells := 0, slots := 0, locals := 0 } : Room) s m args below meth c Q cX6_lineIn G false O (fun r M1 => M1 = M ∧ post r)) (x1 : Int32) (x2 : Int32) (H : Heap) (locs : List Loc) (ls : Array Slot) (hH : zH G false s H locs M O) (hl : lv_has ls 5 [(0, .ref (G.1 21)), (1, .int x1), (2, .int x2)]) (h : pX6_lineIn M x1 x2 post) : W p l e ({ frames := 0, cells := 0, slots := 0, locals := 0 } : Room) s m args below meth c H locs 0 0 Q (F0 m 0 ls []) := by
  obtain ⟨hx, hb, hml, hown, hts⟩ := id hF
  unfold pX6_lineIn at h
  refine lv_iload_n hx hb dX6_lineIn_0 rfl (lv_at hl 2 rfl) ?_
  refine lv_istore_n (lv' := [(3, .int x2), (0, .ref (G.1 21)), (1, .int x1), (2, .int x2)]) hx hb dX6_lineIn_1 rfl hl (by decide) rfl (fun ls hl => ?_)
  refine lv_iconst (v := (0 : Int32)) hx hb dX6_lineIn_2 (by decide) ?_
  refine lv_istore (lv' := [(4, .int (0 : Int32)), (3, .int x2), (0, .ref (G.1 21)), (1, .int x1), (2, .int x2)]) hx hb dX6_lineIn_3 hl (by decide) rfl (fun ls hl => ?_)
  exact wX6_lineIn_L5 hF hSt hret x1 x2 (0 : Int32) H locs ls hH (lv_sub hl [2, 3, 1, 0] rfl) h
set_option maxRecDepth 100000 in
theorem kX6_lineIn (l : Launch) (G : zG) (M O : zM) (x1 : Int32) (x2 : Int32) (post : Int32 → Prop) (h : pX6_lineIn M x1 x2 post) : Met l yX6_lineIn wsX6_lineIn ({ frames := 0, cells := 0, slots := 0, locals := 0 } : Room) (zPc G false M O [.ref (G.1 21), .int x1, .int x2]) (va_Qi (fun r M1 => M1 = M ∧ post r) (zB G false O) (zAA G)) 0 0 (zAA G) :=
  zmet_i (by decide) rfl (Nat.le_of_ble_eq_true rfl) (fun hF hSt hret H locs ls hH hl => wX6_lineIn hF hSt hret x1 x2 H locs ls hH hl h)
end
theorem zdX6_product_ : yX6_product_.cls ≠ "java/lang/invoke/MethodHandle" ∧ yX6_product_.cls ≠ "java/lang/invoke/VarHandle" ∧ (parseMethodDescriptor yX6_product_.desc).map (fun d => d.parameters.length) = some 2 := by decide +kernel
-- MixingRelaysModel product(IJ)J
section
variable {p : Program} {l : Launch} {e : Env} {s : State} {m : MethodId} {args : Array Value} {below : List Frame} {meth : Method} {c : Code} {Q : State → Prop} {G : zG} {O : zM}
def pX6_product__b5 (post : Int64 → Prop) (ag5 : Int32 → Int64 → Int64 → Int32 → Prop) (x0 : Int32) (x1 : Int64) (x3 : Int64) (x5 : Int32) : Prop :=
  ((64 : Int32) ≤ x5 → post x3) ∧ (¬ ((64 : Int32) ≤ x5) → pX6_product x0 (((x1 >>> ((x5).toInt64 &&& 63)) &&& (255 : Int64))).toInt32 (fun r23 => ag5 x0 x1 (x3 ||| ((r23).toInt64 <<< ((x5).toInt64 &&& 63))) (x5 + (8 : Int32))))
set_option maxHeartbeats 4000000 in
set_option maxRecDepth 100000 in
theorem wX6_product__b5 {M : zM} {post : Int64 → Prop} {ag5 : Int32 → Int64 → Int64 → Int32 → Prop} (hF : CallFix p m c cX6_product_ 6 s args wsX6_product_ RX6) (hSt : zSt G s) (hret : zRl p l e ({ frames := 1, cells := 0, slots := 0, locals := 24 } : Room) s m args below meth c Q cX6_product_ G false O (fun r M1 => M1 = M ∧ post r)) (hag5 : ∀ (x0 : Int32) (x1 : Int64) (x3 : Int64) (x5 : Int32) (H : Heap) (locs : List Loc) (ls : Array Slot), ag5 x0 x1 x3 x5 → zH G false s H locs M O → lv_has ls 6 [(0, .int x0), (1, .long x1), (3, .long x3), (5, .int x5)] → W p l e ({ frames := 1, cells := 0, slots := 0, locals := 24 } : Room) s m args below meth c H locs 0 0 Q (F0 m 5 ls [])) (x0 : Int32) (x1 : Int64) (x3 : Int64) (x5 : Int32) (H : Heap) (locs : List Loc) (ls : Array Slot) (hH : zH G false s H locs M O) (hl : lv_has ls 6 [(0, .int x0), (1, .long x1), (3, .long x3), (5, .int x5)]) (h : pX6_product__b5 post ag5 x0 x1 x3 x5) : W p l e ({ frames := 1, cells := 0, slots := 0, locals := 24 } : Room) s m args below meth c H locs 0 0 Q (F0 m 5 ls []) := by
  obtain ⟨hx, hb, hml, hown, hts⟩ := id hF
  unfold pX6_product__b5 at h
  refine lv_iload hx hb dX6_product__5 (lv_at hl 3 rfl) ?_
  refine lv_bipush (v := (64 : Int32)) hx hb dX6_product__7 (by decide) ?_
  refine lv_icmp_ge (tgt := 38) hx hb dX6_product__9 (by decide) (fun q9 => ?_) (fun q9 => ?_)
  · have h := h.1 q9
    refine lv_lload_n hx hb dX6_product__38 rfl (lv_at hl 2 rfl) ?_
    exact hret _ _ _ _ _ _ dX6_product__39 ⟨rfl, h⟩ hH
  · have h := h.2 q9
    refine lv_lload_n hx hb dX6_product__12 rfl (lv_at hl 2 rfl) ?_
    refine lv_iload_n hx hb dX6_product__13 rfl (lv_at hl 0 rfl) ?_
    refine lv_lload_n hx hb dX6_product__14 rfl (lv_at hl 1 rfl) ?_
    refine lv_iload hx hb dX6_product__15 (lv_at hl 3 rfl) ?_
    refine lv_lshr hx hb dX6_product__17 rfl ?_
    refine lv_ldc2 (v := (255 : Int64)) hx hb hown (hts _ (List.mem_of_getElem? (i := 1) rfl)) dX6_product__18 ?_
    refine lv_land hx hb dX6_product__21 ?_
    refine lv_l2i hx hb dX6_product__22 rfl ?_
    refine zcalliP hH (va_runS (As := [.int x0, .int (((x1 >>> ((x5).toInt64 &&& 63)) &&& (255 : Int64))).toInt32]) (rest := [.long x3]) hF (kX6_product l G M O x0 (((x1 >>> ((x5).toInt64 &&& 63)) &&& (255 : Int64))).toInt32 _ h) (va_cwS 2 hts gX6_product__X6_product rfl rfl rfl zdX6_product ⟨Nat.le_of_ble_eq_true rfl, Nat.le_of_ble_eq_true rfl⟩) (zpreS hSt hH [.int x0, .int (((x1 >>> ((x5).toInt64 &&& 63)) &&& (255 : Int64))).toInt32]) rfl rfl hl.1 rfl (lv_room (Nat.le_of_ble_eq_true rfl)) dX6_product__23 ⟨Nat.zero_le _, Nat.zero_le _⟩) (fun r23 H locs h hH => ?_)
    refine lv_i2l hx hb dX6_product__26 rfl ?_
    refine lv_iload hx hb dX6_product__27 (lv_at hl 3 rfl) ?_
    refine lv_lshl hx hb dX6_product__29 rfl ?_
    refine lv_lor hx hb dX6_product__30 ?_
    refine lv_lstore_n (lv' := [(3, .long (x3 ||| ((r23).toInt64 <<< ((x5).toInt64 &&& 63)))), (0, .int x0), (1, .long x1), (5, .int x5)]) hx hb dX6_product__31 rfl hl (by decide) rfl (fun ls hl => ?_)
    refine lv_iinc (v := (x5 + (8 : Int32))) (lv' := [(5, .int (x5 + (8 : Int32))), (3, .long (x3 ||| ((r23).toInt64 <<< ((x5).toInt64 &&& 63)))), (0, .int x0), (1, .long x1)]) hx hb dX6_product__32 hl (k := 3) rfl rfl (by decide) rfl (fun ls hl => ?_)
    refine lv_goto (tgt := 5) hx hb dX6_product__35 (by decide) ?_
    exact hag5 x0 x1 (x3 ||| ((r23).toInt64 <<< ((x5).toInt64 &&& 63))) (x5 + (8 : Int32)) H locs ls h hH (lv_sub hl [2, 3, 1, 0] rfl)
def pX6_product__L5 (post : Int64 → Prop) (x0 : Int32) (x1 : Int64) (x3 : Int64) (x5 : Int32) : Prop :=
  ∃ I : Nat → Int32 → Int64 → Int64 → Int32 → Prop, (∃ n, I n x0 x1 x3 x5) ∧ ∀ n x0 x1 x3 x5, I n x0 x1 x3 x5 → pX6_product__b5 post (fun x0 x1 x3 x5 => ∃ k, k < n ∧ I k x0 x1 x3 x5) x0 x1 x3 x5
set_option maxHeartbeats 4000000 in
theorem wX6_product__L5 {M : zM} {post : Int64 → Prop}  (hF : CallFix p m c cX6_product_ 6 s args wsX6_product_ RX6) (hSt : zSt G s) (hret : zRl p l e ({ frames := 1, cells := 0, slots := 0, locals := 24 } : Room) s m args below meth c Q cX6_product_ G false O (fun r M1 => M1 = M ∧ post r)) (x0 : Int32) (x1 : Int64) (x3 : Int64) (x5 : Int32) (H : Heap) (locs : List Loc) (ls : Array Slot) (hH : zH G false s H locs M O) (hl : lv_has ls 6 [(0, .int x0), (1, .long x1), (3, .long x3), (5, .int x5)]) (h : pX6_product__L5 post x0 x1 x3 x5) : W p l e ({ frames := 1, cells := 0, slots := 0, locals := 24 } : Room) s m args below meth c H locs 0 0 Q (F0 m 5 ls []) := by
  obtain ⟨I, ⟨n, hI⟩, hs⟩ := h
  have key : ∀ (n : Nat) (x0 : Int32) (x1 : Int64) (x3 : Int64) (x5 : Int32) (H : Heap) (locs : List Loc) (ls : Array Slot), I n x0 x1 x3 x5 → zH G false s H locs M O → lv_has ls 6 [(0, .int x0), (1, .long x1), (3, .long x3), (5, .int x5)] → W p l e ({ frames := 1, cells := 0, slots := 0, locals := 24 } : Room) s m args below meth c H locs 0 0 Q (F0 m 5 ls []) := by
    intro n
    induction n using Nat.strongRecOn with
    | _ n ih =>
      intro x0 x1 x3 x5 H locs ls hI hH hl
      exact wX6_product__b5 hF hSt hret (fun x0 x1 x3 x5 H locs ls h hH hl => by obtain ⟨k, hk, hI⟩ := h; exact ih k hk x0 x1 x3 x5 H locs ls hI hH hl) x0 x1 x3 x5 H locs ls hH hl (hs n x0 x1 x3 x5 hI)
  exact key n x0 x1 x3 x5 H locs ls hI hH hl
def pX6_product_ (x0 : Int32) (x1 : Int64) (post : Int64 → Prop) : Prop :=
  pX6_product__L5 post x0 x1 (0 : Int64) (0 : Int32)
set_option maxHeartbeats 4000000 in
set_option maxRecDepth 100000 in
theorem wX6_product_ {M : zM} {post : Int64 → Prop} (hF : CallFix p m c cX6_product_ 6 s args wsX6_product_ RX6) (hSt : zSt G s) (hret : zRl p l e ({ frames := 1, cells := 0, slots := 0, locals := 24 } : Room) s m args below meth c Q cX6_product_ G false O (fun r M1 => M1 = M ∧ post r)) (x0 : Int32) (x1 : Int64) (H : Heap) (locs : List Loc) (ls : Array Slot) (hH : zH G false s H locs M O) (hl : lv_has ls 6 [(0, .int x0), (1, .long x1)]) (h : pX6_product_ x0 x1 post) : W p l e ({ frames := 1, cells := 0, slots := 0, locals := 24 } : Room) s m args below meth c H locs 0 0 Q (F0 m 0 ls []) := by
  obtain ⟨hx, hb, hml, hown, hts⟩ := id hF
  unfold pX6_product_ at h
  refine lv_lconst (v := (0 : Int64)) hx hb dX6_product__0 (by decide) ?_
  refine lv_lstore_n (lv' := [(3, .long (0 : Int64)), (0, .int x0), (1, .long x1)]) hx hb dX6_product__1 rfl hl (by decide) rfl (fun ls hl => ?_)
  refine lv_iconst (v := (0 : Int32)) hx hb dX6_product__2 (by decide) ?_
  refine lv_istore (lv' := [(5, .int (0 : Int32)), (3, .long (0 : Int64)), (0, .int x0), (1, .long x1)]) hx hb dX6_product__3 hl (by decide) rfl (fun ls hl => ?_)
  exact wX6_product__L5 hF hSt hret x0 x1 (0 : Int64) (0 : Int32) H locs ls hH (lv_sub hl [2, 3, 1, 0] rfl) h
set_option maxRecDepth 100000 in
theorem kX6_product_ (l : Launch) (G : zG) (M O : zM) (x0 : Int32) (x1 : Int64) (post : Int64 → Prop) (h : pX6_product_ x0 x1 post) : Met l yX6_product_ wsX6_product_ ({ frames := 1, cells := 0, slots := 0, locals := 24 } : Room) (zPc G false M O [.int x0, .long x1]) (va_Ql (fun r M1 => M1 = M ∧ post r) (zB G false O) (zAA G)) 0 0 (zAA G) :=
  zmet_l (by decide) rfl (Nat.le_of_ble_eq_true rfl) (fun hF hSt hret H locs ls hH hl => wX6_product_ hF hSt hret x0 x1 H locs ls hH hl h)
end
theorem znX6_workLine_X6 : ∀ w ∈ wsX60, w ∈ wsX6_workLine := fun _ h => List.mem_cons_of_mem _ (List.mem_append_right _ h)
theorem zdX6_workLine : yX6_workLine.cls ≠ "java/lang/invoke/MethodHandle" ∧ yX6_workLine.cls ≠ "java/lang/invoke/VarHandle" ∧ (parseMethodDescriptor yX6_workLine.desc).map (fun d => d.parameters.length) = some 1 := by decide +kernel
-- MixingRelaysModel workLine(I)V
section
variable {p : Program} {l : Launch} {e : Env} {s : State} {m : MethodId} {args : Array Value} {below : List Frame} {meth : Method} {c : Code} {Q : State → Prop} {G : zG} {O : zM}
def pX6_workLine_b56 (post : zM → Prop) (M : zM) : Prop :=
  post M
set_option maxHeartbeats 4000000 in
set_option maxRecDepth 100000 in
theorem wX6_workLine_b56 {post : zM → Prop}  (hF : CallFix p m c cX6_workLine 7 s args wsX6_workLine RX6) (hSt : zSt G s) (hret : zRv p l e ({ frames := 2, cells := 0, slots := 0, locals := 49 } : Room) s m args below meth c Q cX6_workLine G false O post) (M : zM) (H : Heap) (locs : List Loc) (ls : Array Slot) (hH : zH G false s H locs M O) (hl : lv_has ls 7 []) (h : pX6_workLine_b56 post M) : W p l e ({ frames := 2, cells := 0, slots := 0, locals := 49 } : Room) s m args below meth c H locs 0 0 Q (F0 m 56 ls []) := by
  obtain ⟨hx, hb, hml, hown, hts⟩ := id hF
  unfold pX6_workLine_b56 at h
  exact hret _ _ _ _ _ dX6_workLine_56 h hH
def pX6_workLine_b207 (post : zM → Prop) (ag65 : Int32 → Int32 → Int32 → zM → Prop) (ag148 : Int32 → Int32 → Int32 → Int32 → Int32 → Int32 → zM → Prop) (x1 : Int32) (x2 : Int32) (x3 : Int32) (x4 : Int32) (x5 : Int32) (x6 : Int32) (t0 : Int32) (t1 : Int32) (t2 : Int32) (M : zM) : Prop :=
  vp_in t2 120 ∧ ag148 x1 x2 x3 x4 x5 (x6 + (1 : Int32)) (zsi M 33 t2.toNatClampNeg (t1 ^^^ t0))
set_option maxHeartbeats 4000000 in
set_option maxRecDepth 100000 in
theorem wX6_workLine_b207 {post : zM → Prop} {ag65 : Int32 → Int32 → Int32 → zM → Prop} {ag148 : Int32 → Int32 → Int32 → Int32 → Int32 → Int32 → zM → Prop} (hF : CallFix p m c cX6_workLine 7 s args wsX6_workLine RX6) (hSt : zSt G s) (hret : zRv p l e ({ frames := 2, cells := 0, slots := 0, locals := 49 } : Room) s m args below meth c Q cX6_workLine G false O post) (hag65 : ∀ (x1 : Int32) (x2 : Int32) (x3 : Int32) (M : zM) (H : Heap) (locs : List Loc) (ls : Array Slot), ag65 x1 x2 x3 M → zH G false s H locs M O → lv_has ls 7 [(0, .ref (G.1 21)), (1, .int x1), (2, .int x2), (3, .int x3)] → W p l e ({ frames := 2, cells := 0, slots := 0, locals := 49 } : Room) s m args below meth c H locs 0 0 Q (F0 m 65 ls [])) (hag148 : ∀ (x1 : Int32) (x2 : Int32) (x3 : Int32) (x4 : Int32) (x5 : Int32) (x6 : Int32) (M : zM) (H : Heap) (locs : List Loc) (ls : Array Slot), ag148 x1 x2 x3 x4 x5 x6 M → zH G false s H locs M O → lv_has ls 7 [(0, .ref (G.1 21)), (1, .int x1), (2, .int x2), (3, .int x3), (4, .int x4), (5, .int x5), (6, .int x6)] → W p l e ({ frames := 2, cells := 0, slots := 0, locals := 49 } : Room) s m args below meth c H locs 0 0 Q (F0 m 148 ls [])) (x1 : Int32) (x2 : Int32) (x3 : Int32) (x4 : Int32) (x5 : Int32) (x6 : Int32) (t0 : Int32) (t1 : Int32) (t2 : Int32) (M : zM) (H : Heap) (locs : List Loc) (ls : Array Slot) (hH : zH G false s H locs M O) (hl : lv_has ls 7 [(0, .ref (G.1 21)), (1, .int x1), (2, .int x2), (3, .int x3), (4, .int x4), (5, .int x5), (6, .int x6)]) (h : pX6_workLine_b207 post ag65 ag148 x1 x2 x3 x4 x5 x6 t0 t1 t2 M) : W p l e ({ frames := 2, cells := 0, slots := 0, locals := 49 } : Room) s m args below meth c H locs 0 0 Q (F0 m 207 ls [.int t0, .int t1, .int t2, .ref (G.1 33)]) := by
  obtain ⟨hx, hb, hml, hown, hts⟩ := id hF
  unfold pX6_workLine_b207 at h
  refine lv_ixor hx hb dX6_workLine_207 ?_
  obtain ⟨q208, h⟩ := h
  refine zast hF hSt hH 33 (by decide) rfl (zE_33 _) (x := (t1 ^^^ t0)) q208 dX6_workLine_208 (fun H locs hH => ?_)
  refine lv_iinc (v := (x6 + (1 : Int32))) (lv' := [(6, .int (x6 + (1 : Int32))), (0, .ref (G.1 21)), (1, .int x1), (2, .int x2), (3, .int x3), (4, .int x4), (5, .int x5)]) hx hb dX6_workLine_209 hl (k := 6) rfl rfl (by decide) rfl (fun ls hl => ?_)
  refine lv_goto (tgt := 148) hx hb dX6_workLine_212 (by decide) ?_
  exact hag148 x1 x2 x3 x4 x5 (x6 + (1 : Int32)) (zsi M 33 t2.toNatClampNeg (t1 ^^^ t0)) H locs ls h hH (lv_sub hl [1, 2, 3, 4, 5, 6, 0] rfl)
def pX6_workLine_b148 (post : zM → Prop) (ag65 : Int32 → Int32 → Int32 → zM → Prop) (ag148 : Int32 → Int32 → Int32 → Int32 → Int32 → Int32 → zM → Prop) (x1 : Int32) (x2 : Int32) (x3 : Int32) (x4 : Int32) (x5 : Int32) (x6 : Int32) (M : zM) : Prop :=
  ((M.1 21 3) ≤ x6 → ag65 x1 x2 (x3 + (1 : Int32)) M) ∧ (¬ ((M.1 21 3) ≤ x6) → vp_in (((4 : Int32) * x1) + x6) 120 ∧ (¬ (x5 = (-1 : Int32)) → vp_in (((4 : Int32) * x5) + x6) 120 ∧ pX6_product x4 (M.1 33 ((((4 : Int32) * x5) + x6)).toNatClampNeg) (fun r204 => pX6_workLine_b207 post ag65 ag148 x1 x2 x3 x4 x5 x6 r204 (M.1 33 ((((4 : Int32) * x1) + x6)).toNatClampNeg) (((4 : Int32) * x1) + x6) M)) ∧ (x5 = (-1 : Int32) → (¬ (x6 = x3) → pX6_workLine_b207 post ag65 ag148 x1 x2 x3 x4 x5 x6 (0 : Int32) (M.1 33 ((((4 : Int32) * x1) + x6)).toNatClampNeg) (((4 : Int32) * x1) + x6) M) ∧ (x6 = x3 → pX6_workLine_b207 post ag65 ag148 x1 x2 x3 x4 x5 x6 x4 (M.1 33 ((((4 : Int32) * x1) + x6)).toNatClampNeg) (((4 : Int32) * x1) + x6) M)))
set_option maxHeartbeats 4000000 in
set_option maxRecDepth 100000 in
theorem wX6_workLine_b148 {post : zM → Prop} {ag65 : Int32 → Int32 → Int32 → zM → Prop} {ag148 : Int32 → Int32 → Int32 → Int32 → Int32 → Int32 → zM → Prop} (hF : CallFix p m c cX6_workLine 7 s args wsX6_workLine RX6) (hSt : zSt G s) (hret : zRv p l e ({ frames := 2, cells := 0, slots := 0, locals := 49 } : Room) s m args below meth c Q cX6_workLine G false O post) (hag65 : ∀ (x1 : Int32) (x2 : Int32) (x3 : Int32) (M : zM) (H : Heap) (locs : List Loc) (ls : Array Slot), ag65 x1 x2 x3 M → zH G false s H locs M O → lv_has ls 7 [(0, .ref (G.1 21)), (1, .int x1), (2, .int x2), (3, .int x3)] → W p l e ({ frames := 2, cells := 0, slots := 0, locals := 49 } : Room) s m args below meth c H locs 0 0 Q (F0 m 65 ls [])) (hag148 : ∀ (x1 : Int32) (x2 : Int32) (x3 : Int32) (x4 : Int32) (x5 : Int32) (x6 : Int32) (M : zM) (H : Heap) (locs : List Loc) (ls : Array Slot), ag148 x1 x2 x3 x4 x5 x6 M → zH G false s H locs M O → lv_has ls 7 [(0, .ref (G.1 21)), (1, .int x1), (2, .int x2), (3, .int x3), (4, .int x4), (5, .int x5), (6, .int x6)] → W p l e ({ frames := 2, cells := 0, slots := 0, locals := 49 } : Room) s m args below meth c H locs 0 0 Q (F0 m 148 ls [])) (x1 : Int32) (x2 : Int32) (x3 : Int32) (x4 : Int32) (x5 : Int32) (x6 : Int32) (M : zM) (H : Heap) (locs : List Loc) (ls : Array Slot) (hH : zH G false s H locs M O) (hl : lv_has ls 7 [(0, .ref (G.1 21)), (1, .int x1), (2, .int x2), (3, .int x3), (4, .int x4), (5, .int x5), (6, .int x6)]) (h : pX6_workLine_b148 post ag65 ag148 x1 x2 x3 x4 x5 x6 M) : W p l e ({ frames := 2, cells := 0, slots := 0, locals := 49 } : Room) s m args below meth c H locs 0 0 Q (F0 m 148 ls []) := by
  obtain ⟨hx, hb, hml, hown, hts⟩ := id hF
  unfold pX6_workLine_b148 at h
  refine lv_iload hx hb dX6_workLine_148 (lv_at hl 6 rfl) ?_
  refine lv_aload_n hx hb dX6_workLine_150 rfl (lv_at hl 0 rfl) ?_
  refine zget (v := .int (M.1 21 3)) hF hSt hH 21 (by decide) rfl (zE_21 _ _ _) (C := RX6) (T := TX6) (N := 31) rfl znX6_workLine_X6 3 (by decide) (List.mem_of_getElem? (i := 9) rfl) rfl dX6_workLine_151 ?_
  refine lv_icmp_ge (tgt := 215) hx hb dX6_workLine_154 (by decide) (fun q154 => ?_) (fun q154 => ?_)
  · have h := h.1 q154
    refine lv_iinc (v := (x3 + (1 : Int32))) (lv' := [(3, .int (x3 + (1 : Int32))), (0, .ref (G.1 21)), (1, .int x1), (2, .int x2), (4, .int x4), (5, .int x5), (6, .int x6)]) hx hb dX6_workLine_215 hl (k := 3) rfl rfl (by decide) rfl (fun ls hl => ?_)
    refine lv_goto (tgt := 65) hx hb dX6_workLine_218 (by decide) ?_
    exact hag65 x1 x2 (x3 + (1 : Int32)) M H locs ls h hH (lv_sub hl [1, 2, 3, 0] rfl)
  · have h := h.2 q154
    refine lv_aload_n hx hb dX6_workLine_157 rfl (lv_at hl 0 rfl) ?_
    refine zget (v := .ref (G.1 33)) hF hSt hH 21 (by decide) rfl (zE_21 _ _ _) (C := RX6) (T := TX6) (N := 31) rfl znX6_workLine_X6 15 (by decide) (List.mem_of_getElem? (i := 2) rfl) rfl dX6_workLine_158 ?_
    refine lv_iconst (v := (4 : Int32)) hx hb dX6_workLine_161 (by decide) ?_
    refine lv_iload_n hx hb dX6_workLine_162 rfl (lv_at hl 1 rfl) ?_
    refine lv_imul hx hb dX6_workLine_163 ?_
    refine lv_iload hx hb dX6_workLine_164 (lv_at hl 6 rfl) ?_
    refine lv_iadd hx hb dX6_workLine_166 ?_
    refine lv_dup2_11 hx hb dX6_workLine_167 rfl rfl ?_
    obtain ⟨q168, h⟩ := h
    refine zald hF hSt hH 33 (by decide) rfl (zE_33 _ _ _) q168 dX6_workLine_168 ?_
    refine lv_iload hx hb dX6_workLine_169 (lv_at hl 5 rfl) ?_
    refine lv_iconst (v := (-1 : Int32)) hx hb dX6_workLine_171 (by decide) ?_
    refine lv_icmp_ne (tgt := 190) hx hb dX6_workLine_172 (by decide) (fun q172 => ?_) (fun q172 => ?_)
    · have h := h.1 q172
      refine lv_iload hx hb dX6_workLine_190 (lv_at hl 4 rfl) ?_
      refine lv_aload_n hx hb dX6_workLine_192 rfl (lv_at hl 0 rfl) ?_
      refine zget (v := .ref (G.1 33)) hF hSt hH 21 (by decide) rfl (zE_21 _ _ _) (C := RX6) (T := TX6) (N := 31) rfl znX6_workLine_X6 15 (by decide) (List.mem_of_getElem? (i := 2) rfl) rfl dX6_workLine_193 ?_
      refine lv_iconst (v := (4 : Int32)) hx hb dX6_workLine_196 (by decide) ?_
      refine lv_iload hx hb dX6_workLine_197 (lv_at hl 5 rfl) ?_
      refine lv_imul hx hb dX6_workLine_199 ?_
      refine lv_iload hx hb dX6_workLine_200 (lv_at hl 6 rfl) ?_
      refine lv_iadd hx hb dX6_workLine_202 ?_
      obtain ⟨q203, h⟩ := h
      refine zald hF hSt hH 33 (by decide) rfl (zE_33 _ _ _) q203 dX6_workLine_203 ?_
      refine zcalliP hH (va_runS (As := [.int x4, .int (M.1 33 ((((4 : Int32) * x5) + x6)).toNatClampNeg)]) (rest := [.int (M.1 33 ((((4 : Int32) * x1) + x6)).toNatClampNeg), .int (((4 : Int32) * x1) + x6), .ref (G.1 33)]) hF (kX6_product l G M O x4 (M.1 33 ((((4 : Int32) * x5) + x6)).toNatClampNeg) _ h) (va_cwS 2 hts gX6_workLine_X6_product rfl rfl rfl zdX6_product ⟨Nat.le_of_ble_eq_true rfl, Nat.le_of_ble_eq_true rfl⟩) (zpreS hSt hH [.int x4, .int (M.1 33 ((((4 : Int32) * x5) + x6)).toNatClampNeg)]) rfl rfl hl.1 rfl (lv_room (Nat.le_of_ble_eq_true rfl)) dX6_workLine_204 ⟨Nat.zero_le _, Nat.zero_le _⟩) (fun r204 H locs h hH => ?_)
      exact wX6_workLine_b207 hF hSt hret hag65 hag148 x1 x2 x3 x4 x5 x6 r204 (M.1 33 ((((4 : Int32) * x1) + x6)).toNatClampNeg) (((4 : Int32) * x1) + x6) M H locs ls hH (lv_sub hl [0, 1, 2, 3, 4, 5, 6] rfl) h
    · have h := h.2 q172
      refine lv_iload hx hb dX6_workLine_175 (lv_at hl 6 rfl) ?_
      refine lv_iload_n hx hb dX6_workLine_177 rfl (lv_at hl 3 rfl) ?_
      refine lv_icmp_ne (tgt := 186) hx hb dX6_workLine_178 (by decide) (fun q178 => ?_) (fun q178 => ?_)
      · have h := h.1 q178
        refine lv_iconst (v := (0 : Int32)) hx hb dX6_workLine_186 (by decide) ?_
        refine lv_goto (tgt := 207) hx hb dX6_workLine_187 (by decide) ?_
        exact wX6_workLine_b207 hF hSt hret hag65 hag148 x1 x2 x3 x4 x5 x6 (0 : Int32) (M.1 33 ((((4 : Int32) * x1) + x6)).toNatClampNeg) (((4 : Int32) * x1) + x6) M H locs ls hH (lv_sub hl [0, 1, 2, 3, 4, 5, 6] rfl) h
      · have h := h.2 q178
        refine lv_iload hx hb dX6_workLine_181 (lv_at hl 4 rfl) ?_
        refine lv_goto (tgt := 207) hx hb dX6_workLine_183 (by decide) ?_
        exact wX6_workLine_b207 hF hSt hret hag65 hag148 x1 x2 x3 x4 x5 x6 x4 (M.1 33 ((((4 : Int32) * x1) + x6)).toNatClampNeg) (((4 : Int32) * x1) + x6) M H locs ls hH (lv_sub hl [0, 1, 2, 3, 4, 5, 6] rfl) h
def pX6_workLine_L148 (post : zM → Prop) (ag65 : Int32 → Int32 → Int32 → zM → Prop) (x1 : Int32) (x2 : Int32) (x3 : Int32) (x4 : Int32) (x5 : Int32) (x6 : Int32) (M : zM) : Prop :=
  ∃ I : Nat → Int32 → Int32 → Int32 → Int32 → Int32 → Int32 → zM → Prop, (∃ n, I n x1 x2 x3 x4 x5 x6 M) ∧ ∀ n x1 x2 x3 x4 x5 x6 M, I n x1 x2 x3 x4 x5 x6 M → pX6_workLine_b148 post ag65 (fun x1 x2 x3 x4 x5 x6 M => ∃ k, k < n ∧ I k x1 x2 x3 x4 x5 x6 M) x1 x2 x3 x4 x5 x6 M
set_option maxHeartbeats 4000000 in
theorem wX6_workLine_L148 {post : zM → Prop} {ag65 : Int32 → Int32 → Int32 → zM → Prop} (hF : CallFix p m c cX6_workLine 7 s args wsX6_workLine RX6) (hSt : zSt G s) (hret : zRv p l e ({ frames := 2, cells := 0, slots := 0, locals := 49 } : Room) s m args below meth c Q cX6_workLine G false O post) (hag65 : ∀ (x1 : Int32) (x2 : Int32) (x3 : Int32) (M : zM) (H : Heap) (locs : List Loc) (ls : Array Slot), ag65 x1 x2 x3 M → zH G false s H locs M O → lv_has ls 7 [(0, .ref (G.1 21)), (1, .int x1), (2, .int x2), (3, .int x3)] → W p l e ({ frames := 2, cells := 0, slots := 0, locals := 49 } : Room) s m args below meth c H locs 0 0 Q (F0 m 65 ls [])) (x1 : Int32) (x2 : Int32) (x3 : Int32) (x4 : Int32) (x5 : Int32) (x6 : Int32) (M : zM) (H : Heap) (locs : List Loc) (ls : Array Slot) (hH : zH G false s H locs M O) (hl : lv_has ls 7 [(0, .ref (G.1 21)), (1, .int x1), (2, .int x2), (3, .int x3), (4, .int x4), (5, .int x5), (6, .int x6)]) (h : pX6_workLine_L148 post ag65 x1 x2 x3 x4 x5 x6 M) : W p l e ({ frames := 2, cells := 0, slots := 0, locals := 49 } : Room) s m args below meth c H locs 0 0 Q (F0 m 148 ls []) := by
  obtain ⟨I, ⟨n, hI⟩, hs⟩ := h
  have key : ∀ (n : Nat) (x1 : Int32) (x2 : Int32) (x3 : Int32) (x4 : Int32) (x5 : Int32) (x6 : Int32) (M : zM) (H : Heap) (locs : List Loc) (ls : Array Slot), I n x1 x2 x3 x4 x5 x6 M → zH G false s H locs M O → lv_has ls 7 [(0, .ref (G.1 21)), (1, .int x1), (2, .int x2), (3, .int x3), (4, .int x4), (5, .int x5), (6, .int x6)] → W p l e ({ frames := 2, cells := 0, slots := 0, locals := 49 } : Room) s m args below meth c H locs 0 0 Q (F0 m 148 ls []) := by
    intro n
    induction n using Nat.strongRecOn with
    | _ n ih =>
      intro x1 x2 x3 x4 x5 x6 M H locs ls hI hH hl
      exact wX6_workLine_b148 hF hSt hret hag65 (fun x1 x2 x3 x4 x5 x6 M H locs ls h hH hl => by obtain ⟨k, hk, hI⟩ := h; exact ih k hk x1 x2 x3 x4 x5 x6 M H locs ls hI hH hl) x1 x2 x3 x4 x5 x6 M H locs ls hH hl (hs n x1 x2 x3 x4 x5 x6 M hI)
  exact key n x1 x2 x3 x4 x5 x6 M H locs ls hI hH hl
def pX6_workLine_b140 (post : zM → Prop) (ag65 : Int32 → Int32 → Int32 → zM → Prop) (x1 : Int32) (x2 : Int32) (x3 : Int32) (x4 : Int32) (x5 : Int32) (t0 : Int64) (t1 : Int32) (t2 : Int64) (t3 : Int32) (M : zM) : Prop :=
  pX6_product_ t1 t0 (fun r140 => vp_in t3 30 ∧ pX6_workLine_L148 post ag65 x1 x2 x3 x4 x5 (0 : Int32) (zsj M 34 t3.toNatClampNeg (t2 ^^^ r140)))
set_option maxHeartbeats 4000000 in
set_option maxRecDepth 100000 in
theorem wX6_workLine_b140 {post : zM → Prop} {ag65 : Int32 → Int32 → Int32 → zM → Prop} (hF : CallFix p m c cX6_workLine 7 s args wsX6_workLine RX6) (hSt : zSt G s) (hret : zRv p l e ({ frames := 2, cells := 0, slots := 0, locals := 49 } : Room) s m args below meth c Q cX6_workLine G false O post) (hag65 : ∀ (x1 : Int32) (x2 : Int32) (x3 : Int32) (M : zM) (H : Heap) (locs : List Loc) (ls : Array Slot), ag65 x1 x2 x3 M → zH G false s H locs M O → lv_has ls 7 [(0, .ref (G.1 21)), (1, .int x1), (2, .int x2), (3, .int x3)] → W p l e ({ frames := 2, cells := 0, slots := 0, locals := 49 } : Room) s m args below meth c H locs 0 0 Q (F0 m 65 ls [])) (x1 : Int32) (x2 : Int32) (x3 : Int32) (x4 : Int32) (x5 : Int32) (t0 : Int64) (t1 : Int32) (t2 : Int64) (t3 : Int32) (M : zM) (H : Heap) (locs : List Loc) (ls : Array Slot) (hH : zH G false s H locs M O) (hl : lv_has ls 7 [(0, .ref (G.1 21)), (1, .int x1), (2, .int x2), (3, .int x3), (4, .int x4), (5, .int x5)]) (h : pX6_workLine_b140 post ag65 x1 x2 x3 x4 x5 t0 t1 t2 t3 M) : W p l e ({ frames := 2, cells := 0, slots := 0, locals := 49 } : Room) s m args below meth c H locs 0 0 Q (F0 m 140 ls [.long t0, .int t1, .long t2, .int t3, .ref (G.1 34)]) := by
  obtain ⟨hx, hb, hml, hown, hts⟩ := id hF
  unfold pX6_workLine_b140 at h
  refine zcalllP hH (va_runS (As := [.int t1, .long t0]) (rest := [.long t2, .int t3, .ref (G.1 34)]) hF (kX6_product_ l G M O t1 t0 _ h) (va_cwS 2 hts gX6_workLine_X6_product_ rfl rfl rfl zdX6_product_ ⟨Nat.le_of_ble_eq_true rfl, Nat.le_of_ble_eq_true rfl⟩) (zpreS hSt hH [.int t1, .long t0]) rfl rfl hl.1 rfl (lv_room (Nat.le_of_ble_eq_true rfl)) dX6_workLine_140 ⟨Nat.zero_le _, Nat.zero_le _⟩) (fun r140 H locs h hH => ?_)
  refine lv_lxor hx hb dX6_workLine_143 ?_
  obtain ⟨q144, h⟩ := h
  refine zlast hF hSt hH 34 (by decide) rfl (zE_34 _) (x := (t2 ^^^ r140)) q144 dX6_workLine_144 (fun H locs hH => ?_)
  refine lv_iconst (v := (0 : Int32)) hx hb dX6_workLine_145 (by decide) ?_
  refine lv_istore (lv' := [(6, .int (0 : Int32)), (0, .ref (G.1 21)), (1, .int x1), (2, .int x2), (3, .int x3), (4, .int x4), (5, .int x5)]) hx hb dX6_workLine_146 hl (by decide) rfl (fun ls hl => ?_)
  exact wX6_workLine_L148 hF hSt hret hag65 x1 x2 x3 x4 x5 (0 : Int32) (zsj M 34 t3.toNatClampNeg (t2 ^^^ r140)) H locs ls hH (lv_sub hl [1, 2, 3, 4, 5, 6, 0] rfl) h
def pX6_workLine_b107 (post : zM → Prop) (ag65 : Int32 → Int32 → Int32 → zM → Prop) (x1 : Int32) (x2 : Int32) (x3 : Int32) (x4 : Int32) (t0 : Int32) (M : zM) : Prop :=
  vp_in x1 30 ∧ (¬ (t0 = (-1 : Int32)) → vp_in t0 30 ∧ pX6_workLine_b140 post ag65 x1 x2 x3 x4 t0 (M.2 34 t0.toNatClampNeg) x4 (M.2 34 x1.toNatClampNeg) x1 M) ∧ (t0 = (-1 : Int32) → vp_in x3 4 ∧ pX6_workLine_b140 post ag65 x1 x2 x3 x4 t0 (M.2 22 x3.toNatClampNeg) x4 (M.2 34 x1.toNatClampNeg) x1 M)
set_option maxHeartbeats 4000000 in
set_option maxRecDepth 100000 in
theorem wX6_workLine_b107 {post : zM → Prop} {ag65 : Int32 → Int32 → Int32 → zM → Prop} (hF : CallFix p m c cX6_workLine 7 s args wsX6_workLine RX6) (hSt : zSt G s) (hret : zRv p l e ({ frames := 2, cells := 0, slots := 0, locals := 49 } : Room) s m args below meth c Q cX6_workLine G false O post) (hag65 : ∀ (x1 : Int32) (x2 : Int32) (x3 : Int32) (M : zM) (H : Heap) (locs : List Loc) (ls : Array Slot), ag65 x1 x2 x3 M → zH G false s H locs M O → lv_has ls 7 [(0, .ref (G.1 21)), (1, .int x1), (2, .int x2), (3, .int x3)] → W p l e ({ frames := 2, cells := 0, slots := 0, locals := 49 } : Room) s m args below meth c H locs 0 0 Q (F0 m 65 ls [])) (x1 : Int32) (x2 : Int32) (x3 : Int32) (x4 : Int32) (t0 : Int32) (M : zM) (H : Heap) (locs : List Loc) (ls : Array Slot) (hH : zH G false s H locs M O) (hl : lv_has ls 7 [(0, .ref (G.1 21)), (1, .int x1), (2, .int x2), (3, .int x3), (4, .int x4)]) (h : pX6_workLine_b107 post ag65 x1 x2 x3 x4 t0 M) : W p l e ({ frames := 2, cells := 0, slots := 0, locals := 49 } : Room) s m args below meth c H locs 0 0 Q (F0 m 107 ls [.int t0]) := by
  obtain ⟨hx, hb, hml, hown, hts⟩ := id hF
  unfold pX6_workLine_b107 at h
  refine lv_istore (lv' := [(5, .int t0), (0, .ref (G.1 21)), (1, .int x1), (2, .int x2), (3, .int x3), (4, .int x4)]) hx hb dX6_workLine_107 hl (by decide) rfl (fun ls hl => ?_)
  refine lv_aload_n hx hb dX6_workLine_109 rfl (lv_at hl 1 rfl) ?_
  refine zget (v := .ref (G.1 34)) hF hSt hH 21 (by decide) rfl (zE_21 _ _ _) (C := RX6) (T := TX6) (N := 31) rfl znX6_workLine_X6 16 (by decide) (List.mem_of_getElem? (i := 1) rfl) rfl dX6_workLine_110 ?_
  refine lv_iload_n hx hb dX6_workLine_113 rfl (lv_at hl 2 rfl) ?_
  refine lv_dup2_11 hx hb dX6_workLine_114 rfl rfl ?_
  obtain ⟨q115, h⟩ := h
  refine zlald hF hSt hH 34 (by decide) rfl (zE_34 _ _ _) q115 dX6_workLine_115 ?_
  refine lv_iload hx hb dX6_workLine_116 (lv_at hl 5 rfl) ?_
  refine lv_iload hx hb dX6_workLine_118 (lv_at hl 0 rfl) ?_
  refine lv_iconst (v := (-1 : Int32)) hx hb dX6_workLine_120 (by decide) ?_
  refine lv_icmp_ne (tgt := 133) hx hb dX6_workLine_121 (by decide) (fun q121 => ?_) (fun q121 => ?_)
  · have h := h.1 q121
    refine lv_aload_n hx hb dX6_workLine_133 rfl (lv_at hl 1 rfl) ?_
    refine zget (v := .ref (G.1 34)) hF hSt hH 21 (by decide) rfl (zE_21 _ _ _) (C := RX6) (T := TX6) (N := 31) rfl znX6_workLine_X6 16 (by decide) (List.mem_of_getElem? (i := 1) rfl) rfl dX6_workLine_134 ?_
    refine lv_iload hx hb dX6_workLine_137 (lv_at hl 0 rfl) ?_
    obtain ⟨q139, h⟩ := h
    refine zlald hF hSt hH 34 (by decide) rfl (zE_34 _ _ _) q139 dX6_workLine_139 ?_
    exact wX6_workLine_b140 hF hSt hret hag65 x1 x2 x3 x4 t0 (M.2 34 t0.toNatClampNeg) x4 (M.2 34 x1.toNatClampNeg) x1 M H locs ls hH (lv_sub hl [1, 2, 3, 4, 5, 0] rfl) h
  · have h := h.2 q121
    refine lv_aload_n hx hb dX6_workLine_124 rfl (lv_at hl 1 rfl) ?_
    refine zget (v := .ref (G.1 22)) hF hSt hH 21 (by decide) rfl (zE_21 _ _ _) (C := RX6) (T := TX6) (N := 31) rfl znX6_workLine_X6 4 (by decide) (List.mem_of_getElem? (i := 8) rfl) rfl dX6_workLine_125 ?_
    refine lv_iload_n hx hb dX6_workLine_128 rfl (lv_at hl 4 rfl) ?_
    obtain ⟨q129, h⟩ := h
    refine zlald hF hSt hH 22 (by decide) rfl (zE_22 _ _ _) q129 dX6_workLine_129 ?_
    refine lv_goto (tgt := 140) hx hb dX6_workLine_130 (by decide) ?_
    exact wX6_workLine_b140 hF hSt hret hag65 x1 x2 x3 x4 t0 (M.2 22 x3.toNatClampNeg) x4 (M.2 34 x1.toNatClampNeg) x1 M H locs ls hH (lv_sub hl [1, 2, 3, 4, 5, 0] rfl) h
def pX6_workLine_b65 (post : zM → Prop) (ag65 : Int32 → Int32 → Int32 → zM → Prop) (x1 : Int32) (x2 : Int32) (x3 : Int32) (M : zM) : Prop :=
  (x2 ≤ x3 → vp_in x1 30 ∧ vp_in x1 30 ∧ vp_in x1 30 ∧ post (zsj M 34 x1.toNatClampNeg ((M.2 34 x1.toNatClampNeg) ^^^ (M.2 28 x1.toNatClampNeg)))) ∧ (¬ (x2 ≤ x3) → vp_in (((30 : Int32) * x1) + x3) 900 ∧ vp_in x1 30 ∧ (¬ ((M.1 24 x1.toNatClampNeg) = 0) → vp_in x1 30 ∧ pX6_lineIn M (M.1 24 x1.toNatClampNeg) x3 (fun r104 => pX6_workLine_b107 post ag65 x1 x2 x3 (M.1 29 ((((30 : Int32) * x1) + x3)).toNatClampNeg) r104 M)) ∧ ((M.1 24 x1.toNatClampNeg) = 0 → pX6_workLine_b107 post ag65 x1 x2 x3 (M.1 29 ((((30 : Int32) * x1) + x3)).toNatClampNeg) (-1 : Int32) M))
set_option maxHeartbeats 4000000 in
set_option maxRecDepth 100000 in
theorem wX6_workLine_b65 {post : zM → Prop} {ag65 : Int32 → Int32 → Int32 → zM → Prop} (hF : CallFix p m c cX6_workLine 7 s args wsX6_workLine RX6) (hSt : zSt G s) (hret : zRv p l e ({ frames := 2, cells := 0, slots := 0, locals := 49 } : Room) s m args below meth c Q cX6_workLine G false O post) (hag65 : ∀ (x1 : Int32) (x2 : Int32) (x3 : Int32) (M : zM) (H : Heap) (locs : List Loc) (ls : Array Slot), ag65 x1 x2 x3 M → zH G false s H locs M O → lv_has ls 7 [(0, .ref (G.1 21)), (1, .int x1), (2, .int x2), (3, .int x3)] → W p l e ({ frames := 2, cells := 0, slots := 0, locals := 49 } : Room) s m args below meth c H locs 0 0 Q (F0 m 65 ls [])) (x1 : Int32) (x2 : Int32) (x3 : Int32) (M : zM) (H : Heap) (locs : List Loc) (ls : Array Slot) (hH : zH G false s H locs M O) (hl : lv_has ls 7 [(0, .ref (G.1 21)), (1, .int x1), (2, .int x2), (3, .int x3)]) (h : pX6_workLine_b65 post ag65 x1 x2 x3 M) : W p l e ({ frames := 2, cells := 0, slots := 0, locals := 49 } : Room) s m args below meth c H locs 0 0 Q (F0 m 65 ls []) := by
  obtain ⟨hx, hb, hml, hown, hts⟩ := id hF
  unfold pX6_workLine_b65 at h
  refine lv_iload_n hx hb dX6_workLine_65 rfl (lv_at hl 3 rfl) ?_
  refine lv_iload_n hx hb dX6_workLine_66 rfl (lv_at hl 2 rfl) ?_
  refine lv_icmp_ge (tgt := 221) hx hb dX6_workLine_67 (by decide) (fun q67 => ?_) (fun q67 => ?_)
  · have h := h.1 q67
    refine lv_aload_n hx hb dX6_workLine_221 rfl (lv_at hl 0 rfl) ?_
    refine zget (v := .ref (G.1 34)) hF hSt hH 21 (by decide) rfl (zE_21 _ _ _) (C := RX6) (T := TX6) (N := 31) rfl znX6_workLine_X6 16 (by decide) (List.mem_of_getElem? (i := 1) rfl) rfl dX6_workLine_222 ?_
    refine lv_iload_n hx hb dX6_workLine_225 rfl (lv_at hl 1 rfl) ?_
    refine lv_dup2_11 hx hb dX6_workLine_226 rfl rfl ?_
    obtain ⟨q227, h⟩ := h
    refine zlald hF hSt hH 34 (by decide) rfl (zE_34 _ _ _) q227 dX6_workLine_227 ?_
    refine lv_aload_n hx hb dX6_workLine_228 rfl (lv_at hl 0 rfl) ?_
    refine zget (v := .ref (G.1 28)) hF hSt hH 21 (by decide) rfl (zE_21 _ _ _) (C := RX6) (T := TX6) (N := 31) rfl znX6_workLine_X6 10 (by decide) (List.mem_of_getElem? (i := 10) rfl) rfl dX6_workLine_229 ?_
    refine lv_iload_n hx hb dX6_workLine_232 rfl (lv_at hl 1 rfl) ?_
    obtain ⟨q233, h⟩ := h
    refine zlald hF hSt hH 28 (by decide) rfl (zE_28 _ _ _) q233 dX6_workLine_233 ?_
    refine lv_lxor hx hb dX6_workLine_234 ?_
    obtain ⟨q235, h⟩ := h
    refine zlast hF hSt hH 34 (by decide) rfl (zE_34 _) (x := ((M.2 34 x1.toNatClampNeg) ^^^ (M.2 28 x1.toNatClampNeg))) q235 dX6_workLine_235 (fun H locs hH => ?_)
    exact hret _ _ _ _ _ dX6_workLine_236 h hH
  · have h := h.2 q67
    refine lv_aload_n hx hb dX6_workLine_70 rfl (lv_at hl 0 rfl) ?_
    refine zget (v := .ref (G.1 29)) hF hSt hH 21 (by decide) rfl (zE_21 _ _ _) (C := RX6) (T := TX6) (N := 31) rfl znX6_workLine_X6 11 (by decide) (List.mem_of_getElem? (i := 6) rfl) rfl dX6_workLine_71 ?_
    refine lv_bipush (v := (30 : Int32)) hx hb dX6_workLine_74 (by decide) ?_
    refine lv_iload_n hx hb dX6_workLine_76 rfl (lv_at hl 1 rfl) ?_
    refine lv_imul hx hb dX6_workLine_77 ?_
    refine lv_iload_n hx hb dX6_workLine_78 rfl (lv_at hl 3 rfl) ?_
    refine lv_iadd hx hb dX6_workLine_79 ?_
    obtain ⟨q80, h⟩ := h
    refine zald hF hSt hH 29 (by decide) rfl (zE_29 _ _ _) q80 dX6_workLine_80 ?_
    refine lv_istore (lv' := [(4, .int (M.1 29 ((((30 : Int32) * x1) + x3)).toNatClampNeg)), (0, .ref (G.1 21)), (1, .int x1), (2, .int x2), (3, .int x3)]) hx hb dX6_workLine_81 hl (by decide) rfl (fun ls hl => ?_)
    refine lv_aload_n hx hb dX6_workLine_83 rfl (lv_at hl 1 rfl) ?_
    refine zget (v := .ref (G.1 24)) hF hSt hH 21 (by decide) rfl (zE_21 _ _ _) (C := RX6) (T := TX6) (N := 31) rfl znX6_workLine_X6 6 (by decide) (List.mem_of_getElem? (i := 7) rfl) rfl dX6_workLine_84 ?_
    refine lv_iload_n hx hb dX6_workLine_87 rfl (lv_at hl 2 rfl) ?_
    obtain ⟨q88, h⟩ := h
    refine zald hF hSt hH 24 (by decide) rfl (zE_24 _ _ _) q88 dX6_workLine_88 ?_
    refine lv_if_ne (tgt := 96) hx hb dX6_workLine_89 (by decide) (fun q89 => ?_) (fun q89 => ?_)
    · have h := h.1 q89
      refine lv_aload_n hx hb dX6_workLine_96 rfl (lv_at hl 1 rfl) ?_
      refine lv_aload_n hx hb dX6_workLine_97 rfl (lv_at hl 1 rfl) ?_
      refine zget (v := .ref (G.1 24)) hF hSt hH 21 (by decide) rfl (zE_21 _ _ _) (C := RX6) (T := TX6) (N := 31) rfl znX6_workLine_X6 6 (by decide) (List.mem_of_getElem? (i := 7) rfl) rfl dX6_workLine_98 ?_
      refine lv_iload_n hx hb dX6_workLine_101 rfl (lv_at hl 2 rfl) ?_
      obtain ⟨q102, h⟩ := h
      refine zald hF hSt hH 24 (by decide) rfl (zE_24 _ _ _) q102 dX6_workLine_102 ?_
      refine lv_iload_n hx hb dX6_workLine_103 rfl (lv_at hl 4 rfl) ?_
      refine zcalliP hH (va_runV (As := [.int (M.1 24 x1.toNatClampNeg), .int x3]) (rest := []) hF (kX6_lineIn l G M O (M.1 24 x1.toNatClampNeg) x3 _ h) (cwV 2 hts gX6_workLine_X6_lineIn rfl rfl rfl ⟨rfl, zdX6_lineIn⟩ ⟨Nat.le_of_ble_eq_true rfl, Nat.le_of_ble_eq_true rfl⟩) (zpreV hSt hH 21 (by decide) rfl (zE_21 _ _ _) (q := (RX6, TX6, 31)) rfl [.int (M.1 24 x1.toNatClampNeg), .int x3]) rfl rfl hl.1 rfl (lv_room (Nat.le_of_ble_eq_true rfl)) dX6_workLine_104 ⟨Nat.zero_le _, Nat.zero_le _⟩) (fun r104 H locs h hH => ?_)
      exact wX6_workLine_b107 hF hSt hret hag65 x1 x2 x3 (M.1 29 ((((30 : Int32) * x1) + x3)).toNatClampNeg) r104 M H locs ls hH (lv_sub hl [1, 2, 3, 4, 0] rfl) h
    · have h := h.2 q89
      refine lv_iconst (v := (-1 : Int32)) hx hb dX6_workLine_92 (by decide) ?_
      refine lv_goto (tgt := 107) hx hb dX6_workLine_93 (by decide) ?_
      exact wX6_workLine_b107 hF hSt hret hag65 x1 x2 x3 (M.1 29 ((((30 : Int32) * x1) + x3)).toNatClampNeg) (-1 : Int32) M H locs ls hH (lv_sub hl [1, 2, 3, 4, 0] rfl) h
def pX6_workLine_L65 (post : zM → Prop) (x1 : Int32) (x2 : Int32) (x3 : Int32) (M : zM) : Prop :=
  ∃ I : Nat → Int32 → Int32 → Int32 → zM → Prop, (∃ n, I n x1 x2 x3 M) ∧ ∀ n x1 x2 x3 M, I n x1 x2 x3 M → pX6_workLine_b65 post (fun x1 x2 x3 M => ∃ k, k < n ∧ I k x1 x2 x3 M) x1 x2 x3 M
set_option maxHeartbeats 4000000 in
theorem wX6_workLine_L65 {post : zM → Prop}  (hF : CallFix p m c cX6_workLine 7 s args wsX6_workLine RX6) (hSt : zSt G s) (hret : zRv p l e ({ frames := 2, cells := 0, slots := 0, locals := 49 } : Room) s m args below meth c Q cX6_workLine G false O post) (x1 : Int32) (x2 : Int32) (x3 : Int32) (M : zM) (H : Heap) (locs : List Loc) (ls : Array Slot) (hH : zH G false s H locs M O) (hl : lv_has ls 7 [(0, .ref (G.1 21)), (1, .int x1), (2, .int x2), (3, .int x3)]) (h : pX6_workLine_L65 post x1 x2 x3 M) : W p l e ({ frames := 2, cells := 0, slots := 0, locals := 49 } : Room) s m args below meth c H locs 0 0 Q (F0 m 65 ls []) := by
  obtain ⟨I, ⟨n, hI⟩, hs⟩ := h
  have key : ∀ (n : Nat) (x1 : Int32) (x2 : Int32) (x3 : Int32) (M : zM) (H : Heap) (locs : List Loc) (ls : Array Slot), I n x1 x2 x3 M → zH G false s H locs M O → lv_has ls 7 [(0, .ref (G.1 21)), (1, .int x1), (2, .int x2), (3, .int x3)] → W p l e ({ frames := 2, cells := 0, slots := 0, locals := 49 } : Room) s m args below meth c H locs 0 0 Q (F0 m 65 ls []) := by
    intro n
    induction n using Nat.strongRecOn with
    | _ n ih =>
      intro x1 x2 x3 M H locs ls hI hH hl
      exact wX6_workLine_b65 hF hSt hret (fun x1 x2 x3 M H locs ls h hH hl => by obtain ⟨k, hk, hI⟩ := h; exact ih k hk x1 x2 x3 M H locs ls hI hH hl) x1 x2 x3 M H locs ls hH hl (hs n x1 x2 x3 M hI)
  exact key n x1 x2 x3 M H locs ls hI hH hl
def pX6_workLine_b9 (post : zM → Prop) (ag9 : Int32 → Int32 → zM → Prop) (x1 : Int32) (x2 : Int32) (M : zM) : Prop :=
  ((4 : Int32) ≤ x2 → vp_in x1 30 ∧ (¬ ((M.1 27 x1.toNatClampNeg) = 0) → pX6_workLine_b56 post M) ∧ ((M.1 27 x1.toNatClampNeg) = 0 → (x1 = (M.1 21 17) → pX6_workLine_b56 post M) ∧ (¬ (x1 = (M.1 21 17)) → (¬ (x1 = (M.1 21 18)) → pX6_ins M x1 (fun r59 => pX6_workLine_L65 post x1 r59 (0 : Int32) M)) ∧ (x1 = (M.1 21 18) → pX6_workLine_b56 post M)))) ∧ (¬ ((4 : Int32) ≤ x2) → vp_in (((4 : Int32) * x1) + x2) 120 ∧ ag9 x1 (x2 + (1 : Int32)) (zsi M 33 ((((4 : Int32) * x1) + x2)).toNatClampNeg (0 : Int32)))
set_option maxHeartbeats 4000000 in
set_option maxRecDepth 100000 in
theorem wX6_workLine_b9 {post : zM → Prop} {ag9 : Int32 → Int32 → zM → Prop} (hF : CallFix p m c cX6_workLine 7 s args wsX6_workLine RX6) (hSt : zSt G s) (hret : zRv p l e ({ frames := 2, cells := 0, slots := 0, locals := 49 } : Room) s m args below meth c Q cX6_workLine G false O post) (hag9 : ∀ (x1 : Int32) (x2 : Int32) (M : zM) (H : Heap) (locs : List Loc) (ls : Array Slot), ag9 x1 x2 M → zH G false s H locs M O → lv_has ls 7 [(0, .ref (G.1 21)), (1, .int x1), (2, .int x2)] → W p l e ({ frames := 2, cells := 0, slots := 0, locals := 49 } : Room) s m args below meth c H locs 0 0 Q (F0 m 9 ls [])) (x1 : Int32) (x2 : Int32) (M : zM) (H : Heap) (locs : List Loc) (ls : Array Slot) (hH : zH G false s H locs M O) (hl : lv_has ls 7 [(0, .ref (G.1 21)), (1, .int x1), (2, .int x2)]) (h : pX6_workLine_b9 post ag9 x1 x2 M) : W p l e ({ frames := 2, cells := 0, slots := 0, locals := 49 } : Room) s m args below meth c H locs 0 0 Q (F0 m 9 ls []) := by
  obtain ⟨hx, hb, hml, hown, hts⟩ := id hF
  unfold pX6_workLine_b9 at h
  refine lv_iload_n hx hb dX6_workLine_9 rfl (lv_at hl 2 rfl) ?_
  refine lv_iconst (v := (4 : Int32)) hx hb dX6_workLine_10 (by decide) ?_
  refine lv_icmp_ge (tgt := 31) hx hb dX6_workLine_11 (by decide) (fun q11 => ?_) (fun q11 => ?_)
  · have h := h.1 q11
    refine lv_aload_n hx hb dX6_workLine_31 rfl (lv_at hl 0 rfl) ?_
    refine zget (v := .ref (G.1 27)) hF hSt hH 21 (by decide) rfl (zE_21 _ _ _) (C := RX6) (T := TX6) (N := 31) rfl znX6_workLine_X6 9 (by decide) (List.mem_of_getElem? (i := 3) rfl) rfl dX6_workLine_32 ?_
    refine lv_iload_n hx hb dX6_workLine_35 rfl (lv_at hl 1 rfl) ?_
    obtain ⟨q36, h⟩ := h
    refine zzald hF hSt hH 27 (by decide) rfl (zE_27 _ _ _) q36 dX6_workLine_36 ?_
    refine lv_if_ne (tgt := 56) hx hb dX6_workLine_37 (by decide) (fun q37 => ?_) (fun q37 => ?_)
    · have h := h.1 q37
      exact wX6_workLine_b56 hF hSt hret M H locs ls hH (lv_sub hl [] rfl) h
    · have h := h.2 q37
      refine lv_iload_n hx hb dX6_workLine_40 rfl (lv_at hl 1 rfl) ?_
      refine lv_aload_n hx hb dX6_workLine_41 rfl (lv_at hl 0 rfl) ?_
      refine zget (v := .int (M.1 21 17)) hF hSt hH 21 (by decide) rfl (zE_21 _ _ _) (C := RX6) (T := TX6) (N := 31) rfl znX6_workLine_X6 17 (by decide) (List.mem_of_getElem? (i := 4) rfl) rfl dX6_workLine_42 ?_
      refine lv_icmp_eq (tgt := 56) hx hb dX6_workLine_45 (by decide) (fun q45 => ?_) (fun q45 => ?_)
      · have h := h.1 q45
        exact wX6_workLine_b56 hF hSt hret M H locs ls hH (lv_sub hl [] rfl) h
      · have h := h.2 q45
        refine lv_iload_n hx hb dX6_workLine_48 rfl (lv_at hl 1 rfl) ?_
        refine lv_aload_n hx hb dX6_workLine_49 rfl (lv_at hl 0 rfl) ?_
        refine zget (v := .int (M.1 21 18)) hF hSt hH 21 (by decide) rfl (zE_21 _ _ _) (C := RX6) (T := TX6) (N := 31) rfl znX6_workLine_X6 18 (by decide) (List.mem_of_getElem? (i := 5) rfl) rfl dX6_workLine_50 ?_
        refine lv_icmp_ne (tgt := 57) hx hb dX6_workLine_53 (by decide) (fun q53 => ?_) (fun q53 => ?_)
        · have h := h.1 q53
          refine lv_aload_n hx hb dX6_workLine_57 rfl (lv_at hl 0 rfl) ?_
          refine lv_iload_n hx hb dX6_workLine_58 rfl (lv_at hl 1 rfl) ?_
          refine zcalliP hH (va_runV (As := [.int x1]) (rest := []) hF (kX6_ins l G M O x1 _ h) (cwV 1 hts gX6_workLine_X6_ins rfl rfl rfl ⟨rfl, zdX6_ins⟩ ⟨Nat.le_of_ble_eq_true rfl, Nat.le_of_ble_eq_true rfl⟩) (zpreV hSt hH 21 (by decide) rfl (zE_21 _ _ _) (q := (RX6, TX6, 31)) rfl [.int x1]) rfl rfl hl.1 rfl (lv_room (Nat.le_of_ble_eq_true rfl)) dX6_workLine_59 ⟨Nat.zero_le _, Nat.zero_le _⟩) (fun r59 H locs h hH => ?_)
          refine lv_istore_n (lv' := [(2, .int r59), (0, .ref (G.1 21)), (1, .int x1)]) hx hb dX6_workLine_62 rfl hl (by decide) rfl (fun ls hl => ?_)
          refine lv_iconst (v := (0 : Int32)) hx hb dX6_workLine_63 (by decide) ?_
          refine lv_istore_n (lv' := [(3, .int (0 : Int32)), (2, .int r59), (0, .ref (G.1 21)), (1, .int x1)]) hx hb dX6_workLine_64 rfl hl (by decide) rfl (fun ls hl => ?_)
          exact wX6_workLine_L65 hF hSt hret x1 r59 (0 : Int32) M H locs ls hH (lv_sub hl [2, 3, 1, 0] rfl) h
        · have h := h.2 q53
          exact wX6_workLine_b56 hF hSt hret M H locs ls hH (lv_sub hl [] rfl) h
  · have h := h.2 q11
    refine lv_aload_n hx hb dX6_workLine_14 rfl (lv_at hl 0 rfl) ?_
    refine zget (v := .ref (G.1 33)) hF hSt hH 21 (by decide) rfl (zE_21 _ _ _) (C := RX6) (T := TX6) (N := 31) rfl znX6_workLine_X6 15 (by decide) (List.mem_of_getElem? (i := 2) rfl) rfl dX6_workLine_15 ?_
    refine lv_iconst (v := (4 : Int32)) hx hb dX6_workLine_18 (by decide) ?_
    refine lv_iload_n hx hb dX6_workLine_19 rfl (lv_at hl 1 rfl) ?_
    refine lv_imul hx hb dX6_workLine_20 ?_
    refine lv_iload_n hx hb dX6_workLine_21 rfl (lv_at hl 2 rfl) ?_
    refine lv_iadd hx hb dX6_workLine_22 ?_
    refine lv_iconst (v := (0 : Int32)) hx hb dX6_workLine_23 (by decide) ?_
    obtain ⟨q24, h⟩ := h
    refine zast hF hSt hH 33 (by decide) rfl (zE_33 _) (x := (0 : Int32)) q24 dX6_workLine_24 (fun H locs hH => ?_)
    refine lv_iinc (v := (x2 + (1 : Int32))) (lv' := [(2, .int (x2 + (1 : Int32))), (0, .ref (G.1 21)), (1, .int x1)]) hx hb dX6_workLine_25 hl (k := 2) rfl rfl (by decide) rfl (fun ls hl => ?_)
    refine lv_goto (tgt := 9) hx hb dX6_workLine_28 (by decide) ?_
    exact hag9 x1 (x2 + (1 : Int32)) (zsi M 33 ((((4 : Int32) * x1) + x2)).toNatClampNeg (0 : Int32)) H locs ls h hH (lv_sub hl [1, 2, 0] rfl)
def pX6_workLine_L9 (post : zM → Prop) (x1 : Int32) (x2 : Int32) (M : zM) : Prop :=
  ∃ I : Nat → Int32 → Int32 → zM → Prop, (∃ n, I n x1 x2 M) ∧ ∀ n x1 x2 M, I n x1 x2 M → pX6_workLine_b9 post (fun x1 x2 M => ∃ k, k < n ∧ I k x1 x2 M) x1 x2 M
set_option maxHeartbeats 4000000 in
theorem wX6_workLine_L9 {post : zM → Prop}  (hF : CallFix p m c cX6_workLine 7 s args wsX6_workLine RX6) (hSt : zSt G s) (hret : zRv p l e ({ frames := 2, cells := 0, slots := 0, locals := 49 } : Room) s m args below meth c Q cX6_workLine G false O post) (x1 : Int32) (x2 : Int32) (M : zM) (H : Heap) (locs : List Loc) (ls : Array Slot) (hH : zH G false s H locs M O) (hl : lv_has ls 7 [(0, .ref (G.1 21)), (1, .int x1), (2, .int x2)]) (h : pX6_workLine_L9 post x1 x2 M) : W p l e ({ frames := 2, cells := 0, slots := 0, locals := 49 } : Room) s m args below meth c H locs 0 0 Q (F0 m 9 ls []) := by
  obtain ⟨I, ⟨n, hI⟩, hs⟩ := h
  have key : ∀ (n : Nat) (x1 : Int32) (x2 : Int32) (M : zM) (H : Heap) (locs : List Loc) (ls : Array Slot), I n x1 x2 M → zH G false s H locs M O → lv_has ls 7 [(0, .ref (G.1 21)), (1, .int x1), (2, .int x2)] → W p l e ({ frames := 2, cells := 0, slots := 0, locals := 49 } : Room) s m args below meth c H locs 0 0 Q (F0 m 9 ls []) := by
    intro n
    induction n using Nat.strongRecOn with
    | _ n ih =>
      intro x1 x2 M H locs ls hI hH hl
      exact wX6_workLine_b9 hF hSt hret (fun x1 x2 M H locs ls h hH hl => by obtain ⟨k, hk, hI⟩ := h; exact ih k hk x1 x2 M H locs ls hI hH hl) x1 x2 M H locs ls hH hl (hs n x1 x2 M hI)
  exact key n x1 x2 M H locs ls hI hH hl
def pX6_workLine (M : zM) (x1 : Int32) (post : zM → Prop) : Prop :=
  vp_in x1 30 ∧ pX6_workLine_L9 post x1 (0 : Int32) (zsj M 34 x1.toNatClampNeg (0 : Int64))
set_option maxHeartbeats 4000000 in
set_option maxRecDepth 100000 in
theorem wX6_workLine {M : zM} {post : zM → Prop} (hF : CallFix p m c cX6_workLine 7 s args wsX6_workLine RX6) (hSt : zSt G s) (hret : zRv p l e ({ frames := 2, cells := 0, slots := 0, locals := 49 } : Room) s m args below meth c Q cX6_workLine G false O post) (x1 : Int32) (H : Heap) (locs : List Loc) (ls : Array Slot) (hH : zH G false s H locs M O) (hl : lv_has ls 7 [(0, .ref (G.1 21)), (1, .int x1)]) (h : pX6_workLine M x1 post) : W p l e ({ frames := 2, cells := 0, slots := 0, locals := 49 } : Room) s m args below meth c H locs 0 0 Q (F0 m 0 ls []) := by
  obtain ⟨hx, hb, hml, hown, hts⟩ := id hF
  unfold pX6_workLine at h
  refine lv_aload_n hx hb dX6_workLine_0 rfl (lv_at hl 0 rfl) ?_
  refine zget (v := .ref (G.1 34)) hF hSt hH 21 (by decide) rfl (zE_21 _ _ _) (C := RX6) (T := TX6) (N := 31) rfl znX6_workLine_X6 16 (by decide) (List.mem_of_getElem? (i := 1) rfl) rfl dX6_workLine_1 ?_
  refine lv_iload_n hx hb dX6_workLine_4 rfl (lv_at hl 1 rfl) ?_
  refine lv_lconst (v := (0 : Int64)) hx hb dX6_workLine_5 (by decide) ?_
  obtain ⟨q6, h⟩ := h
  refine zlast hF hSt hH 34 (by decide) rfl (zE_34 _) (x := (0 : Int64)) q6 dX6_workLine_6 (fun H locs hH => ?_)
  refine lv_iconst (v := (0 : Int32)) hx hb dX6_workLine_7 (by decide) ?_
  refine lv_istore_n (lv' := [(2, .int (0 : Int32)), (0, .ref (G.1 21)), (1, .int x1)]) hx hb dX6_workLine_8 rfl hl (by decide) rfl (fun ls hl => ?_)
  exact wX6_workLine_L9 hF hSt hret x1 (0 : Int32) (zsj M 34 x1.toNatClampNeg (0 : Int64)) H locs ls hH (lv_sub hl [1, 2, 0] rfl) h
set_option maxRecDepth 100000 in
theorem kX6_workLine (l : Launch) (G : zG) (M O : zM) (x1 : Int32) (post : zM → Prop) (h : pX6_workLine M x1 post) : Met l yX6_workLine wsX6_workLine ({ frames := 2, cells := 0, slots := 0, locals := 49 } : Room) (zPc G false M O [.ref (G.1 21), .int x1]) (va_Qv post (zB G false O) (zAA G)) 0 0 (zAA G) :=
  zmet_v (by decide) rfl (Nat.le_of_ble_eq_true rfl) (fun hF hSt hret H locs ls hH hl => wX6_workLine hF hSt hret x1 H locs ls hH hl h)
end
theorem znX6_work_X6 : ∀ w ∈ wsX60, w ∈ wsX6_work := fun _ h => List.mem_cons_of_mem _ (List.mem_append_right _ h)
theorem zdX6_work : yX6_work.cls ≠ "java/lang/invoke/MethodHandle" ∧ yX6_work.cls ≠ "java/lang/invoke/VarHandle" ∧ (parseMethodDescriptor yX6_work.desc).map (fun d => d.parameters.length) = some 0 := by decide +kernel
-- MixingRelaysModel work()V
section
variable {p : Program} {l : Launch} {e : Env} {s : State} {m : MethodId} {args : Array Value} {below : List Frame} {meth : Method} {c : Code} {Q : State → Prop} {G : zG} {O : zM}
def pX6_work_b35 (post : zM → Prop) (ag2 : Int32 → zM → Prop) (ag12 : Int32 → Int32 → zM → Prop) (x1 : Int32) (x2 : Int32) (M : zM) : Prop :=
  ag12 x1 (x2 + (1 : Int32)) M
set_option maxHeartbeats 4000000 in
set_option maxRecDepth 100000 in
theorem wX6_work_b35 {post : zM → Prop} {ag2 : Int32 → zM → Prop} {ag12 : Int32 → Int32 → zM → Prop} (hF : CallFix p m c cX6_work 3 s args wsX6_work RX6) (hSt : zSt G s) (hret : zRv p l e ({ frames := 3, cells := 0, slots := 0, locals := 75 } : Room) s m args below meth c Q cX6_work G false O post) (hag2 : ∀ (x1 : Int32) (M : zM) (H : Heap) (locs : List Loc) (ls : Array Slot), ag2 x1 M → zH G false s H locs M O → lv_has ls 3 [(0, .ref (G.1 21)), (1, .int x1)] → W p l e ({ frames := 3, cells := 0, slots := 0, locals := 75 } : Room) s m args below meth c H locs 0 0 Q (F0 m 2 ls [])) (hag12 : ∀ (x1 : Int32) (x2 : Int32) (M : zM) (H : Heap) (locs : List Loc) (ls : Array Slot), ag12 x1 x2 M → zH G false s H locs M O → lv_has ls 3 [(0, .ref (G.1 21)), (1, .int x1), (2, .int x2)] → W p l e ({ frames := 3, cells := 0, slots := 0, locals := 75 } : Room) s m args below meth c H locs 0 0 Q (F0 m 12 ls [])) (x1 : Int32) (x2 : Int32) (M : zM) (H : Heap) (locs : List Loc) (ls : Array Slot) (hH : zH G false s H locs M O) (hl : lv_has ls 3 [(0, .ref (G.1 21)), (1, .int x1), (2, .int x2)]) (h : pX6_work_b35 post ag2 ag12 x1 x2 M) : W p l e ({ frames := 3, cells := 0, slots := 0, locals := 75 } : Room) s m args below meth c H locs 0 0 Q (F0 m 35 ls []) := by
  obtain ⟨hx, hb, hml, hown, hts⟩ := id hF
  unfold pX6_work_b35 at h
  refine lv_iinc (v := (x2 + (1 : Int32))) (lv' := [(2, .int (x2 + (1 : Int32))), (0, .ref (G.1 21)), (1, .int x1)]) hx hb dX6_work_35 hl (k := 2) rfl rfl (by decide) rfl (fun ls hl => ?_)
  refine lv_goto (tgt := 12) hx hb dX6_work_38 (by decide) ?_
  exact hag12 x1 (x2 + (1 : Int32)) M H locs ls h hH (lv_sub hl [1, 2, 0] rfl)
def pX6_work_b12 (post : zM → Prop) (ag2 : Int32 → zM → Prop) (ag12 : Int32 → Int32 → zM → Prop) (x1 : Int32) (x2 : Int32) (M : zM) : Prop :=
  ((M.1 21 2) ≤ x2 → ag2 (x1 + (1 : Int32)) M) ∧ (¬ ((M.1 21 2) ≤ x2) → vp_in x2 30 ∧ (¬ ((M.1 24 x2.toNatClampNeg) = x1) → pX6_work_b35 post ag2 ag12 x1 x2 M) ∧ ((M.1 24 x2.toNatClampNeg) = x1 → pX6_workLine M x2 (fun M32 => pX6_work_b35 post ag2 ag12 x1 x2 M32)))
set_option maxHeartbeats 4000000 in
set_option maxRecDepth 100000 in
theorem wX6_work_b12 {post : zM → Prop} {ag2 : Int32 → zM → Prop} {ag12 : Int32 → Int32 → zM → Prop} (hF : CallFix p m c cX6_work 3 s args wsX6_work RX6) (hSt : zSt G s) (hret : zRv p l e ({ frames := 3, cells := 0, slots := 0, locals := 75 } : Room) s m args below meth c Q cX6_work G false O post) (hag2 : ∀ (x1 : Int32) (M : zM) (H : Heap) (locs : List Loc) (ls : Array Slot), ag2 x1 M → zH G false s H locs M O → lv_has ls 3 [(0, .ref (G.1 21)), (1, .int x1)] → W p l e ({ frames := 3, cells := 0, slots := 0, locals := 75 } : Room) s m args below meth c H locs 0 0 Q (F0 m 2 ls [])) (hag12 : ∀ (x1 : Int32) (x2 : Int32) (M : zM) (H : Heap) (locs : List Loc) (ls : Array Slot), ag12 x1 x2 M → zH G false s H locs M O → lv_has ls 3 [(0, .ref (G.1 21)), (1, .int x1), (2, .int x2)] → W p l e ({ frames := 3, cells := 0, slots := 0, locals := 75 } : Room) s m args below meth c H locs 0 0 Q (F0 m 12 ls [])) (x1 : Int32) (x2 : Int32) (M : zM) (H : Heap) (locs : List Loc) (ls : Array Slot) (hH : zH G false s H locs M O) (hl : lv_has ls 3 [(0, .ref (G.1 21)), (1, .int x1), (2, .int x2)]) (h : pX6_work_b12 post ag2 ag12 x1 x2 M) : W p l e ({ frames := 3, cells := 0, slots := 0, locals := 75 } : Room) s m args below meth c H locs 0 0 Q (F0 m 12 ls []) := by
  obtain ⟨hx, hb, hml, hown, hts⟩ := id hF
  unfold pX6_work_b12 at h
  refine lv_iload_n hx hb dX6_work_12 rfl (lv_at hl 2 rfl) ?_
  refine lv_aload_n hx hb dX6_work_13 rfl (lv_at hl 0 rfl) ?_
  refine zget (v := .int (M.1 21 2)) hF hSt hH 21 (by decide) rfl (zE_21 _ _ _) (C := RX6) (T := TX6) (N := 31) rfl znX6_work_X6 2 (by decide) (List.mem_of_getElem? (i := 2) rfl) rfl dX6_work_14 ?_
  refine lv_icmp_ge (tgt := 41) hx hb dX6_work_17 (by decide) (fun q17 => ?_) (fun q17 => ?_)
  · have h := h.1 q17
    refine lv_iinc (v := (x1 + (1 : Int32))) (lv' := [(1, .int (x1 + (1 : Int32))), (0, .ref (G.1 21)), (2, .int x2)]) hx hb dX6_work_41 hl (k := 1) rfl rfl (by decide) rfl (fun ls hl => ?_)
    refine lv_goto (tgt := 2) hx hb dX6_work_44 (by decide) ?_
    exact hag2 (x1 + (1 : Int32)) M H locs ls h hH (lv_sub hl [1, 0] rfl)
  · have h := h.2 q17
    refine lv_aload_n hx hb dX6_work_20 rfl (lv_at hl 0 rfl) ?_
    refine zget (v := .ref (G.1 24)) hF hSt hH 21 (by decide) rfl (zE_21 _ _ _) (C := RX6) (T := TX6) (N := 31) rfl znX6_work_X6 6 (by decide) (List.mem_of_getElem? (i := 3) rfl) rfl dX6_work_21 ?_
    refine lv_iload_n hx hb dX6_work_24 rfl (lv_at hl 2 rfl) ?_
    obtain ⟨q25, h⟩ := h
    refine zald hF hSt hH 24 (by decide) rfl (zE_24 _ _ _) q25 dX6_work_25 ?_
    refine lv_iload_n hx hb dX6_work_26 rfl (lv_at hl 1 rfl) ?_
    refine lv_icmp_ne (tgt := 35) hx hb dX6_work_27 (by decide) (fun q27 => ?_) (fun q27 => ?_)
    · have h := h.1 q27
      exact wX6_work_b35 hF hSt hret hag2 hag12 x1 x2 M H locs ls hH (lv_sub hl [0, 1, 2] rfl) h
    · have h := h.2 q27
      refine lv_aload_n hx hb dX6_work_30 rfl (lv_at hl 0 rfl) ?_
      refine lv_iload_n hx hb dX6_work_31 rfl (lv_at hl 2 rfl) ?_
      refine zcallv hH (va_runV (As := [.int x2]) (rest := []) hF (kX6_workLine l G M O x2 _ h) (cwV 1 hts gX6_work_X6_workLine rfl rfl rfl ⟨rfl, zdX6_workLine⟩ ⟨Nat.le_of_ble_eq_true rfl, Nat.le_of_ble_eq_true rfl⟩) (zpreV hSt hH 21 (by decide) rfl (zE_21 _ _ _) (q := (RX6, TX6, 31)) rfl [.int x2]) rfl rfl hl.1 rfl (lv_room (Nat.le_of_ble_eq_true rfl)) dX6_work_32 ⟨Nat.zero_le _, Nat.zero_le _⟩) (fun M32 H locs h hH => ?_)
      exact wX6_work_b35 hF hSt hret hag2 hag12 x1 x2 M32 H locs ls hH (lv_sub hl [0, 1, 2] rfl) h
def pX6_work_L12 (post : zM → Prop) (ag2 : Int32 → zM → Prop) (x1 : Int32) (x2 : Int32) (M : zM) : Prop :=
  ∃ I : Nat → Int32 → Int32 → zM → Prop, (∃ n, I n x1 x2 M) ∧ ∀ n x1 x2 M, I n x1 x2 M → pX6_work_b12 post ag2 (fun x1 x2 M => ∃ k, k < n ∧ I k x1 x2 M) x1 x2 M
set_option maxHeartbeats 4000000 in
theorem wX6_work_L12 {post : zM → Prop} {ag2 : Int32 → zM → Prop} (hF : CallFix p m c cX6_work 3 s args wsX6_work RX6) (hSt : zSt G s) (hret : zRv p l e ({ frames := 3, cells := 0, slots := 0, locals := 75 } : Room) s m args below meth c Q cX6_work G false O post) (hag2 : ∀ (x1 : Int32) (M : zM) (H : Heap) (locs : List Loc) (ls : Array Slot), ag2 x1 M → zH G false s H locs M O → lv_has ls 3 [(0, .ref (G.1 21)), (1, .int x1)] → W p l e ({ frames := 3, cells := 0, slots := 0, locals := 75 } : Room) s m args below meth c H locs 0 0 Q (F0 m 2 ls [])) (x1 : Int32) (x2 : Int32) (M : zM) (H : Heap) (locs : List Loc) (ls : Array Slot) (hH : zH G false s H locs M O) (hl : lv_has ls 3 [(0, .ref (G.1 21)), (1, .int x1), (2, .int x2)]) (h : pX6_work_L12 post ag2 x1 x2 M) : W p l e ({ frames := 3, cells := 0, slots := 0, locals := 75 } : Room) s m args below meth c H locs 0 0 Q (F0 m 12 ls []) := by
  obtain ⟨I, ⟨n, hI⟩, hs⟩ := h
  have key : ∀ (n : Nat) (x1 : Int32) (x2 : Int32) (M : zM) (H : Heap) (locs : List Loc) (ls : Array Slot), I n x1 x2 M → zH G false s H locs M O → lv_has ls 3 [(0, .ref (G.1 21)), (1, .int x1), (2, .int x2)] → W p l e ({ frames := 3, cells := 0, slots := 0, locals := 75 } : Room) s m args below meth c H locs 0 0 Q (F0 m 12 ls []) := by
    intro n
    induction n using Nat.strongRecOn with
    | _ n ih =>
      intro x1 x2 M H locs ls hI hH hl
      exact wX6_work_b12 hF hSt hret hag2 (fun x1 x2 M H locs ls h hH hl => by obtain ⟨k, hk, hI⟩ := h; exact ih k hk x1 x2 M H locs ls hI hH hl) x1 x2 M H locs ls hH hl (hs n x1 x2 M hI)
  exact key n x1 x2 M H locs ls hI hH hl
def pX6_work_b2 (post : zM → Prop) (ag2 : Int32 → zM → Prop) (x1 : Int32) (M : zM) : Prop :=
  ((M.1 21 1) ≤ x1 → post M) ∧ (¬ ((M.1 21 1) ≤ x1) → pX6_work_L12 post ag2 x1 (0 : Int32) M)
set_option maxHeartbeats 4000000 in
set_option maxRecDepth 100000 in
theorem wX6_work_b2 {post : zM → Prop} {ag2 : Int32 → zM → Prop} (hF : CallFix p m c cX6_work 3 s args wsX6_work RX6) (hSt : zSt G s) (hret : zRv p l e ({ frames := 3, cells := 0, slots := 0, locals := 75 } : Room) s m args below meth c Q cX6_work G false O post) (hag2 : ∀ (x1 : Int32) (M : zM) (H : Heap) (locs : List Loc) (ls : Array Slot), ag2 x1 M → zH G false s H locs M O → lv_has ls 3 [(0, .ref (G.1 21)), (1, .int x1)] → W p l e ({ frames := 3, cells := 0, slots := 0, locals := 75 } : Room) s m args below meth c H locs 0 0 Q (F0 m 2 ls [])) (x1 : Int32) (M : zM) (H : Heap) (locs : List Loc) (ls : Array Slot) (hH : zH G false s H locs M O) (hl : lv_has ls 3 [(0, .ref (G.1 21)), (1, .int x1)]) (h : pX6_work_b2 post ag2 x1 M) : W p l e ({ frames := 3, cells := 0, slots := 0, locals := 75 } : Room) s m args below meth c H locs 0 0 Q (F0 m 2 ls []) := by
  obtain ⟨hx, hb, hml, hown, hts⟩ := id hF
  unfold pX6_work_b2 at h
  refine lv_iload_n hx hb dX6_work_2 rfl (lv_at hl 1 rfl) ?_
  refine lv_aload_n hx hb dX6_work_3 rfl (lv_at hl 0 rfl) ?_
  refine zget (v := .int (M.1 21 1)) hF hSt hH 21 (by decide) rfl (zE_21 _ _ _) (C := RX6) (T := TX6) (N := 31) rfl znX6_work_X6 1 (by decide) (List.mem_of_getElem? (i := 1) rfl) rfl dX6_work_4 ?_
  refine lv_icmp_ge (tgt := 47) hx hb dX6_work_7 (by decide) (fun q7 => ?_) (fun q7 => ?_)
  · have h := h.1 q7
    exact hret _ _ _ _ _ dX6_work_47 h hH
  · have h := h.2 q7
    refine lv_iconst (v := (0 : Int32)) hx hb dX6_work_10 (by decide) ?_
    refine lv_istore_n (lv' := [(2, .int (0 : Int32)), (0, .ref (G.1 21)), (1, .int x1)]) hx hb dX6_work_11 rfl hl (by decide) rfl (fun ls hl => ?_)
    exact wX6_work_L12 hF hSt hret hag2 x1 (0 : Int32) M H locs ls hH (lv_sub hl [1, 2, 0] rfl) h
def pX6_work_L2 (post : zM → Prop) (x1 : Int32) (M : zM) : Prop :=
  ∃ I : Nat → Int32 → zM → Prop, (∃ n, I n x1 M) ∧ ∀ n x1 M, I n x1 M → pX6_work_b2 post (fun x1 M => ∃ k, k < n ∧ I k x1 M) x1 M
set_option maxHeartbeats 4000000 in
theorem wX6_work_L2 {post : zM → Prop}  (hF : CallFix p m c cX6_work 3 s args wsX6_work RX6) (hSt : zSt G s) (hret : zRv p l e ({ frames := 3, cells := 0, slots := 0, locals := 75 } : Room) s m args below meth c Q cX6_work G false O post) (x1 : Int32) (M : zM) (H : Heap) (locs : List Loc) (ls : Array Slot) (hH : zH G false s H locs M O) (hl : lv_has ls 3 [(0, .ref (G.1 21)), (1, .int x1)]) (h : pX6_work_L2 post x1 M) : W p l e ({ frames := 3, cells := 0, slots := 0, locals := 75 } : Room) s m args below meth c H locs 0 0 Q (F0 m 2 ls []) := by
  obtain ⟨I, ⟨n, hI⟩, hs⟩ := h
  have key : ∀ (n : Nat) (x1 : Int32) (M : zM) (H : Heap) (locs : List Loc) (ls : Array Slot), I n x1 M → zH G false s H locs M O → lv_has ls 3 [(0, .ref (G.1 21)), (1, .int x1)] → W p l e ({ frames := 3, cells := 0, slots := 0, locals := 75 } : Room) s m args below meth c H locs 0 0 Q (F0 m 2 ls []) := by
    intro n
    induction n using Nat.strongRecOn with
    | _ n ih =>
      intro x1 M H locs ls hI hH hl
      exact wX6_work_b2 hF hSt hret (fun x1 M H locs ls h hH hl => by obtain ⟨k, hk, hI⟩ := h; exact ih k hk x1 M H locs ls hI hH hl) x1 M H locs ls hH hl (hs n x1 M hI)
  exact key n x1 M H locs ls hI hH hl
def pX6_work (M : zM)  (post : zM → Prop) : Prop :=
  pX6_work_L2 post (0 : Int32) M
set_option maxHeartbeats 4000000 in
set_option maxRecDepth 100000 in
theorem wX6_work {M : zM} {post : zM → Prop} (hF : CallFix p m c cX6_work 3 s args wsX6_work RX6) (hSt : zSt G s) (hret : zRv p l e ({ frames := 3, cells := 0, slots := 0, locals := 75 } : Room) s m args below meth c Q cX6_work G false O post)  (H : Heap) (locs : List Loc) (ls : Array Slot) (hH : zH G false s H locs M O) (hl : lv_has ls 3 [(0, .ref (G.1 21))]) (h : pX6_work M  post) : W p l e ({ frames := 3, cells := 0, slots := 0, locals := 75 } : Room) s m args below meth c H locs 0 0 Q (F0 m 0 ls []) := by
  obtain ⟨hx, hb, hml, hown, hts⟩ := id hF
  unfold pX6_work at h
  refine lv_iconst (v := (0 : Int32)) hx hb dX6_work_0 (by decide) ?_
  refine lv_istore_n (lv' := [(1, .int (0 : Int32)), (0, .ref (G.1 21))]) hx hb dX6_work_1 rfl hl (by decide) rfl (fun ls hl => ?_)
  exact wX6_work_L2 hF hSt hret (0 : Int32) M H locs ls hH (lv_sub hl [1, 0] rfl) h
set_option maxRecDepth 100000 in
theorem kX6_work (l : Launch) (G : zG) (M O : zM)  (post : zM → Prop) (h : pX6_work M  post) : Met l yX6_work wsX6_work ({ frames := 3, cells := 0, slots := 0, locals := 75 } : Room) (zPc G false M O [.ref (G.1 21)]) (va_Qv post (zB G false O) (zAA G)) 0 0 (zAA G) :=
  zmet_v (by decide) rfl (Nat.le_of_ble_eq_true rfl) (fun hF hSt hret H locs ls hH hl => wX6_work hF hSt hret  H locs ls hH hl h)
end
