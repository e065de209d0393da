abbrev m_S_len : Mt := (⟨"java/lang/String", "length", "()I"⟩, prog_16_method_54_code, 1, some .int)
theorem ok_S_len : MtOk m_S_len 0 := ⟨(inT_3 (i := 17) rfl rfl), (inT_1 (i := 15) rfl rfl), ⟨by decide, by decide⟩, by decide +kernel, by decide⟩
theorem im_S_len : inW (.instanceMethod m_S_len.1) := (inT_3 (i := 15) rfl rfl)
theorem se_S_len : inW (.selects m_S_len.1.cls m_S_len.1 m_S_len.1) := (inT_3 (i := 16) rfl rfl)
theorem D_S_len : decs m_S_len.2.1 [(0, .aload_n 0, 1), (1, .getfield 9, 3), (4, .arraylength, 1), (5, .aload_n 0, 1), (6, .invokevirtual 335, 3), (9, .ishr, 1), (10, .ireturn, 1)] := by unfold decs; decide +kernel
abbrev m_S_cod : Mt := (⟨"java/lang/String", "coder", "()B"⟩, prog_16_method_152_code, 1, some .byte)
theorem ok_S_cod : MtOk m_S_cod 0 := ⟨(inT_3 (i := 21) rfl rfl), (inT_1 (i := 15) rfl rfl), ⟨by decide, by decide⟩, by decide +kernel, by decide⟩
theorem im_S_cod : inW (.instanceMethod m_S_cod.1) := (inT_3 (i := 19) rfl rfl)
theorem se_S_cod : inW (.selects m_S_cod.1.cls m_S_cod.1 m_S_cod.1) := (inT_3 (i := 20) rfl rfl)
theorem D_S_cod : decs m_S_cod.2.1 [(0, .getstatic 38, 3), (3, .ifCond .eq 10, 3), (6, .aload_n 0, 1), (7, .getfield 15, 3), (10, .goto 4, 3), (13, .iconst 1, 1), (14, .ireturn, 1)] := by unfold decs; decide +kernel
abbrev m_S_lat : Mt := (⟨"java/lang/String", "isLatin1", "()Z"⟩, prog_16_method_154_code, 1, some .boolean)
theorem ok_S_lat : MtOk m_S_lat 0 := ⟨(inT_3 (i := 35) rfl rfl), (inT_1 (i := 15) rfl rfl), ⟨by decide, by decide⟩, by decide +kernel, by decide⟩
theorem im_S_lat : inW (.instanceMethod m_S_lat.1) := (inT_3 (i := 33) rfl rfl)
theorem se_S_lat : inW (.selects m_S_lat.1.cls m_S_lat.1 m_S_lat.1) := (inT_3 (i := 34) rfl rfl)
theorem D_S_lat : decs m_S_lat.2.1 [(0, .getstatic 38, 3), (3, .ifCond .eq 14, 3), (6, .aload_n 0, 1), (7, .getfield 15, 3), (10, .ifCond .ne 7, 3), (13, .iconst 1, 1), (14, .goto 4, 3), (17, .iconst 0, 1), (18, .ireturn, 1)] := by unfold decs; decide +kernel
abbrev m_S_cha : Mt := (⟨"java/lang/String", "charAt", "(I)C"⟩, prog_16_method_56_code, 2, some .char)
theorem ok_S_cha : MtOk m_S_cha 1 := ⟨(inT_3 (i := 31) rfl rfl), (inT_1 (i := 15) rfl rfl), ⟨by decide, by decide⟩, by decide +kernel, by decide⟩
theorem im_S_cha : inW (.instanceMethod m_S_cha.1) := (inT_3 (i := 29) rfl rfl)
theorem se_S_cha : inW (.selects m_S_cha.1.cls m_S_cha.1 m_S_cha.1) := (inT_3 (i := 30) rfl rfl)
theorem D_S_cha : decs m_S_cha.2.1 [(0, .aload_n 0, 1), (1, .invokevirtual 492, 3), (4, .ifCond .eq 12, 3), (7, .aload_n 0, 1), (8, .getfield 9, 3), (11, .iload_n 1, 1), (12, .invokestatic 495, 3), (15, .ireturn, 1), (16, .aload_n 0, 1), (17, .getfield 9, 3), (20, .iload_n 1, 1), (21, .invokestatic 498, 3), (24, .ireturn, 1)] := by unfold decs; decide +kernel
abbrev m_S_l1c : Mt := (⟨"java/lang/StringLatin1", "charAt", "([BI)C"⟩, prog_17_method_2_code, 2, some .char)
theorem ok_S_l1c : MtOk m_S_l1c 2 := ⟨(inT_3 (i := 38) rfl rfl), (inT_1 (i := 16) rfl rfl), ⟨by decide, by decide⟩, by decide +kernel, by decide⟩
theorem sm_S_l1c : inW (.static m_S_l1c.1) := (inT_3 (i := 37) rfl rfl)
theorem D_S_l1c : decs m_S_l1c.2.1 [(0, .iload_n 1, 1), (1, .aload_n 0, 1), (2, .arraylength, 1), (3, .invokestatic 9, 3), (6, .aload_n 0, 1), (7, .iload_n 1, 1), (8, .baload, 1), (9, .sipush 255, 3), (12, .iand, 1), (13, .i2c, 1), (14, .ireturn, 1)] := by unfold decs; decide +kernel
abbrev m_S_chk : Mt := (⟨"java/lang/String", "checkIndex", "(II)V"⟩, prog_16_method_155_code, 2, none)
theorem ok_S_chk : MtOk m_S_chk 2 := ⟨(inT_3 (i := 41) rfl rfl), (inT_1 (i := 15) rfl rfl), ⟨by decide, by decide⟩, by decide +kernel, by decide⟩
theorem sm_S_chk : inW (.static m_S_chk.1) := (inT_3 (i := 40) rfl rfl)
theorem D_S_chk : decs m_S_chk.2.1 [(0, .iload_n 0, 1), (1, .iload_n 1, 1), (2, .getstatic 1053, 3), (5, .invokestatic 1059, 3), (8, .pop, 1), (9, .return_, 1)] := by unfold decs; decide +kernel
abbrev m_S_pck : Mt := (⟨"jdk/internal/util/Preconditions", "checkIndex", "(IILjava/util/function/BiFunction;)I"⟩, prog_20_method_11_code, 3, some .int)
theorem ok_S_pck : MtOk m_S_pck 3 := ⟨(inT_3 (i := 46) rfl rfl), (inT_1 (i := 17) rfl rfl), ⟨by decide, by decide⟩, by decide +kernel, by decide⟩
theorem sm_S_pck : inW (.static m_S_pck.1) := (inT_3 (i := 45) rfl rfl)
theorem D_S_pck : decs m_S_pck.2.1 [(0, .iload_n 0, 1), (1, .ifCond .lt 8, 3), (4, .iload_n 0, 1), (5, .iload_n 1, 1), (6, .if_icmp .lt 10, 3), (9, .aload_n 2, 1), (10, .iload_n 0, 1), (11, .iload_n 1, 1), (12, .invokestatic 95, 3), (15, .athrow, 1), (16, .iload_n 0, 1), (17, .ireturn, 1)] := by unfold decs; decide +kernel
theorem ml_S_cod : inW (.methodLink "java/lang/String" 335 m_S_cod.1) := (inT_3 (i := 18) rfl rfl)
theorem ml_S_lat : inW (.methodLink "java/lang/String" 492 m_S_lat.1) := (inT_3 (i := 32) rfl rfl)
theorem ml_S_l1c : inW (.methodLink "java/lang/String" 495 m_S_l1c.1) := (inT_3 (i := 36) rfl rfl)
theorem ml_S_chk : inW (.methodLink "java/lang/StringLatin1" 9 m_S_chk.1) := (inT_3 (i := 39) rfl rfl)
theorem ml_S_pck : inW (.methodLink "java/lang/String" 1059 m_S_pck.1) := (inT_3 (i := 44) rfl rfl)
theorem fl_S_9 : inW (.fieldLink "java/lang/String" 9 "java/lang/String" "value" "[B") := (inT_9 (i := 148) rfl rfl)
theorem fl_S_15 : inW (.fieldLink "java/lang/String" 15 "java/lang/String" "coder" "B") := (inT_9 (i := 149) rfl rfl)
theorem fl_S_38 : inW (.fieldLink "java/lang/String" 38 "java/lang/String" "COMPACT_STRINGS" "Z") := (inT_3 (i := 22) rfl rfl)
theorem fl_S_1053 : inW (.fieldLink "java/lang/String" 1053 "jdk/internal/util/Preconditions" "SIOOBE_FORMATTER" "Ljava/util/function/BiFunction;") := (inT_3 (i := 42) rfl rfl)
theorem St.i {s : Int} (h : St s) : (s - 1000).toNat < nSt ∧ s.toNat - 1000 = (s - 1000).toNat := by
  obtain ⟨h1, h2⟩ := h
  omega
theorem wad_S (w : Wd) {s : Int} (h : St s) : tv w (vR s) = .ref (w.2.2.2.1 (s - 1000).toNat) := by
  have h1 := h.i
  have h2 := nSt_lt
  obtain ⟨h3, h4⟩ := h
  show wad w s = _
  unfold wad
  rw [if_neg (by omega), if_neg (by omega), if_pos (by omega), h1.2]
theorem wad_SV (w : Wd) {s : Int} (h : St s) : tv w (vR (s + 2000)) = .ref (w.2.2.2.2.1 (s - 1000).toNat) := by
  have h1 := h.i
  have h2 := nSt_lt
  obtain ⟨h3, h4⟩ := h
  show wad w (s + 2000) = _
  unfold wad
  rw [if_neg (by omega), if_neg (by omega), if_neg (by omega), if_neg (by omega), if_pos (by omega)]
  have e : (s + 2000).toNat - 3000 = (s - 1000).toNat := by omega
  rw [e]
section ROWS7
variable {w : Wd} {fz : Bool} {M : Mt} {d n1 n pc : Nat} {lv : List (Nat × Vl)} {st : List Vl} {h : Hp} {K : Int → Hp → Prop}
theorem J_sval (q : Nat) (hp : pc + 3 = q) {o : Int} (hs : St o) (hM : M.1.cls = "java/lang/String") (hd : decode M.2.1 pc = .ok (.getfield 9, 3)) (k : JG w fz M d n1 n q lv (vR (o + 2000) :: st) h K) : JG w fz M d n1 n pc lv (vR o :: st) h K := by
  subst hp
  intro p l e R s m args below meth c H locs ls cells slots Q F hR hr hW hS hl
  have k2 := k p l e R s m args below meth c H locs ls cells slots Q F hR hr hW hS hl
  rw [List.map_cons, wad_SV w hs] at k2
  rw [List.map_cons, wad_S w hs]
  exact vk_getf F.1 F.2.1 (((F.2.2.2.2.2.2.2.1.2.1.1).1 _ hs.i.1).2.2.1) hS F.2.2.2.2.2.1 (by rw [hM]; exact F.2.2.2.2.2.2.1 _ (fl_S_9.mem M)) (fun _ q => q) hd k2
theorem J_scod (q : Nat) (hp : pc + 3 = q) {o : Int} (hs : St o) (hM : M.1.cls = "java/lang/String") (hd : decode M.2.1 pc = .ok (.getfield 15, 3)) (k : JG w fz M d n1 n q lv (vI 0 :: st) h K) : JG w fz M d n1 n pc lv (vR o :: st) h K := by
  subst hp
  intro p l e R s m args below meth c H locs ls cells slots Q F hR hr hW hS hl
  have k2 := k p l e R s m args below meth c H locs ls cells slots Q F hR hr hW hS hl
  rw [List.map_cons, wad_S w hs]
  exact vk_getf F.1 F.2.1 (((F.2.2.2.2.2.2.2.1.2.1.1).1 _ hs.i.1).2.1) hS F.2.2.2.2.2.1 (by rw [hM]; exact F.2.2.2.2.2.2.1 _ (fl_S_15.mem M)) (fun _ q => q) hd k2
theorem J_scom (q : Nat) (hp : pc + 3 = q) (hM : M.1.cls = "java/lang/String") (hd : decode M.2.1 pc = .ok (.getstatic 38, 3)) (k : JG w fz M d n1 n q lv (vI 1 :: st) h K) : JG w fz M d n1 n pc lv st h K := by
  subst hp
  intro p l e R s m args below meth c H locs ls cells slots Q F hR hr hW hS hl
  exact va_gets F.1 F.2.1 (F.2.2.2.2.2.2.2.1.2.1.2.2.1) hS F.2.2.2.2.2.1 (by rw [hM]; exact F.2.2.2.2.2.2.1 _ (fl_S_38.mem M)) (fun _ q => q) hd (k p l e R s m args below meth c H locs ls cells slots Q F hR hr hW hS hl)
theorem wad_F (w : Wd) : tv w (vR 5000) = va_rf w.2.2.2.2.2.2 := by
  show wad w 5000 = _
  unfold wad
  rw [if_neg (by decide), if_neg (by decide), if_neg (by decide), if_neg (by decide), if_neg (by decide)]
theorem J_sfor (q : Nat) (hp : pc + 3 = q) (hM : M.1.cls = "java/lang/String") (hd : decode M.2.1 pc = .ok (.getstatic 1053, 3)) (k : JG w fz M d n1 n q lv (vR 5000 :: st) h K) : JG w fz M d n1 n pc lv st h K := by
  subst hp
  intro p l e R s m args below meth c H locs ls cells slots Q F hR hr hW hS hl
  have k2 := k p l e R s m args below meth c H locs ls cells slots Q F hR hr hW hS hl
  rw [List.map_cons, wad_F w] at k2
  exact va_gets F.1 F.2.1 (F.2.2.2.2.2.2.2.1.2.1.2.2.2) hS F.2.2.2.2.2.1 (by rw [hM]; exact F.2.2.2.2.2.2.1 _ (fl_S_1053.mem M)) (fun _ q => q) hd k2
theorem J_salen (q : Nat) (hp : pc + 1 = q) {o : Int} (hs : St o) (hd : decode M.2.1 pc = .ok (.arraylength, 1)) (k : JG w fz M d n1 n q lv (vI (slen o) :: st) h K) : JG w fz M d n1 n pc lv (vR (o + 2000) :: st) h K := by
  subst hp
  intro p l e R s m args below meth c H locs ls cells slots Q F hR hr hW hS hl
  have k2 := k p l e R s m args below meth c H locs ls cells slots Q F hR hr hW hS hl
  rw [List.map_cons, wad_SV w hs]
  obtain ⟨cell, g1, g2, g3, g4, g5, g6, g7⟩ := (((F.2.2.2.2.2.2.2.1.2.1.1).1 _ hs.i.1).2.2.2).kept hS.2.1
  exact W.alen (n := Int32.ofInt (slen o)) F.1 F.2.1 g1 g2 g5 rfl rfl hd k2
theorem J_sbald (q : Nat) (hp : pc + 1 = q) {o i : Int} (hs : St o) (hi : 0 ≤ i ∧ i < slen o) (hd : decode M.2.1 pc = .ok (.baload, 1)) (k : JG w fz M d n1 n q lv (vI (sch o i) :: st) h K) : JG w fz M d n1 n pc lv (vI i :: vR (o + 2000) :: st) h K := by
  subst hp
  intro p l e R s m args below meth c H locs ls cells slots Q F hR hr hW hS hl
  have k2 := k p l e R s m args below meth c H locs ls cells slots Q F hR hr hW hS hl
  rw [List.map_cons, List.map_cons, wad_SV w hs]
  obtain ⟨cell, g1, g2, g3, g4, g5, g6, g7⟩ := (((F.2.2.2.2.2.2.2.1.2.1.1).1 _ hs.i.1).2.2.2).kept hS.2.1
  have hsl := slen_in o
  have e1 : (Int32.ofInt i).toNatClampNeg = i.toNat := clamp_i32 hi.1 (by omega)
  have hlt : i.toNat < lenSt.getD (o - 1000).toNat 0 := by have := hi.2; unfold slen at this; omega
  have hv : (Int32.ofInt (sch o i)) = (bytSt.getD (o - 1000).toNat []).getD i.toNat 0 := by unfold sch; rw [Int32.ofInt_toInt]
  have k3 : W p l e R s m args below meth c H locs cells slots Q (F0 m (pc + 1) ls (.int ((bytSt.getD (o - 1000).toNat []).getD i.toNat 0) :: List.map (tv w) st)) := by rw [← hv]; exact k2
  refine W.bald F.1 F.2.1 (j := Int32.ofInt i) g1 g2 g3 (fun q => ?_) (by rw [e1]; exact g6 _ hlt) rfl rfl hd k3
  rcases q with q | q
  · exact absurd ((i32_lt ⟨by omega, by omega⟩ (y := 0) ⟨by decide, by decide⟩).mp q) (by omega)
  · rw [e1] at q; omega
theorem J_i2c (q : Nat) (hp : pc + 1 = q) {x : Int} (hx : 0 ≤ x ∧ x < 65536) (hd : decode M.2.1 pc = .ok (.i2c, 1)) (k : JG w fz M d n1 n q lv (vI x :: st) h K) : JG w fz M d n1 n pc lv (vI x :: st) h K := by
  subst hp
  intro p l e R s m args below meth c H locs ls cells slots Q F hR hr hW hS hl
  refine lv_i2c (v := Int32.ofInt x) F.1 F.2.1 hd ?_ (k p l e R s m args below meth c H locs ls cells slots Q F hR hr hW hS hl)
  have := nar_c hx
  exact Value.int.inj this
theorem J_bret {z : Int} (ht : M.2.2.2 = some .byte) (hz : -128 ≤ z ∧ z < 128) (hd : decode M.2.1 pc = .ok (.ireturn, 1)) (k : K z h) : JG w fz M d n n pc lv [vI z] h K := by
  have := J_ret_any (w := w) (fz := fz) (M := M) (d := d) (n := n) (pc := pc) (lv := lv) (h := h) (K := K) (z := z) (by unfold rdec; rw [ht]; exact hd) (by rw [ht]; exact hz) k
  rwa [ht] at this
theorem J_cret {z : Int} (ht : M.2.2.2 = some .char) (hz : 0 ≤ z ∧ z < 65536) (hd : decode M.2.1 pc = .ok (.ireturn, 1)) (k : K z h) : JG w fz M d n n pc lv [vI z] h K := by
  have := J_ret_any (w := w) (fz := fz) (M := M) (d := d) (n := n) (pc := pc) (lv := lv) (h := h) (K := K) (z := z) (by unfold rdec; rw [ht]; exact hd) (by rw [ht]; exact hz) k
  rwa [ht] at this
theorem J_callVs (q : Nat) (hp : pc + 3 = q) {M' : Mt} {d' na idx : Nat} {o : Int} {as : List Vl} (hM : MtOk M' na) (hin : inW (.instanceMethod M'.1)) (hse : inW (.selects M'.1.cls M'.1 M'.1)) (hlk : inW (.methodLink M.1.cls idx M'.1)) (hci : M'.1.cls = "java/lang/String") (ho : St o) (hna : as.length = na) (hdd : d' + 1 ≤ d) (hcs : catS st ≤ 8) (hd : decode M.2.1 pc = .ok (.invokevirtual idx, 3))
    {K1 : Int → Hp → Prop} {sr : Int → List Vl} (hsr : ∀ z, rst M'.2.2.2 z ++ st = sr z) (k : CGm w fz M' d' n n (vR o :: as) h K1) (kk : ∀ z h', K1 z h' → rok M'.2.2.2 z → JG w fz M d n n q lv (sr z) h' K) : JG w fz M d n n pc lv (as.reverse ++ vR o :: st) h K := by
  subst hp
  intro p l e R s m args below meth c H locs ls cells slots Q F hR hr hW hS hl
  have hts := F.2.2.2.2.2.2.1
  refine J_run (n' := n) ⟨Nat.le_refl _, Nat.le_refl _⟩ F hR hr hS hl (va_runV (C := M'.1.cls) (b := w.2.2.2.1 (o - 1000).toNat) (As := as.map (tv w)) ⟨F.1, F.2.1, F.2.2.1, F.2.2.2.2.2.1, hts⟩ (k K1 (fun _ _ q => q) l) ⟨cb_any hM hts hlk hdd ⟨hR.1, hR.2.1⟩, hts _ (hin.mem M), hts _ (hse.mem M)⟩ ⟨PW_blind w fz n h _, by rw [hci]; exact vk_recv F.2.2.2.2.2.2.2.1.2.1.1 ho.i.1 hS, fun U hU hWU => ⟨?_, PW_at F hW hS hU hWU⟩⟩ rfl (by rw [List.length_map]; exact hna) hl.1 ?_ ?_ hd ⟨by omega, by omega⟩) (fun z h' q g => by rw [hsr]; exact kk z h' q g)
  · rw [List.map_cons, wad_S w ho]
  · rw [List.map_append, List.map_cons, wad_S w ho, List.map_reverse]
  · exact lv_room (by rw [catS_m]; exact hcs)
theorem C_cod {o : Int} (hs : St o) (T : K 0 h) : CGm w true m_S_cod 1 NT NT [vR o] h K := by
  refine CGm_of3 (by decide +kernel) (by decide) trivial (Nat.le_of_ble_eq_true rfl) ?_
  refine J_scom 3 rfl rfl (D_S_cod.at 0 rfl) ?_
  refine J_if_eq 6 rfl 13 ⟨by decide, by decide⟩ (D_S_cod.at 1 rfl) (by decide) (fun c => absurd c (by decide)) (fun _ => ?_)
  refine J_aload_n 7 rfl 0 0 rfl hs.rng (D_S_cod.at 2 rfl) ?_
  refine J_scod 10 rfl hs rfl (D_S_cod.at 3 rfl) ?_
  refine J_goto 14 (D_S_cod.at 4 rfl) (by decide) ?_
  exact J_bret rfl ⟨by decide, by decide⟩ (D_S_cod.at 6 rfl) T
theorem C_lat {o : Int} (hs : St o) (T : K 1 h) : CGm w true m_S_lat 1 NT NT [vR o] h K := by
  refine CGm_of3 (by decide +kernel) (by decide) trivial (Nat.le_of_ble_eq_true rfl) ?_
  refine J_scom 3 rfl rfl (D_S_lat.at 0 rfl) ?_
  refine J_if_eq 6 rfl 17 ⟨by decide, by decide⟩ (D_S_lat.at 1 rfl) (by decide) (fun c => absurd c (by decide)) (fun _ => ?_)
  refine J_aload_n 7 rfl 0 0 rfl hs.rng (D_S_lat.at 2 rfl) ?_
  refine J_scod 10 rfl hs rfl (D_S_lat.at 3 rfl) ?_
  refine J_if_ne 13 rfl 17 ⟨by decide, by decide⟩ (D_S_lat.at 4 rfl) (by decide) (fun c => absurd rfl c) (fun _ => ?_)
  refine J_iconst 14 rfl (D_S_lat.at 5 rfl) ?_
  refine J_goto 18 (D_S_lat.at 6 rfl) (by decide) ?_
  exact J_zret rfl (Or.inr rfl) (D_S_lat.at 8 rfl) T
theorem C_len {o : Int} (hs : St o) (T : K (slen o) h) : CGm w true m_S_len 2 NT NT [vR o] h K := by
  refine CGm_of3 (by decide +kernel) (by decide) trivial (Nat.le_of_ble_eq_true rfl) ?_
  refine J_aload_n 1 rfl 0 0 rfl hs.rng (D_S_len.at 0 rfl) ?_
  refine J_sval 4 rfl hs rfl (D_S_len.at 1 rfl) ?_
  refine J_salen 5 rfl hs (D_S_len.at 2 rfl) ?_
  refine J_aload_n 6 rfl 0 0 rfl hs.rng (D_S_len.at 3 rfl) ?_
  refine J_callVs (d' := 1) (sr := fun z => [vI z, vI (slen o)]) (K1 := fun z h1 => z = 0 ∧ h1 = h) (as := []) (st := [vI (slen o)]) (o := o) 9 rfl ok_S_cod im_S_cod se_S_cod ml_S_cod rfl hs rfl (by decide) (Nat.le_of_ble_eq_true rfl) (D_S_len.at 4 rfl) (fun _ => rfl) (C_cod hs ⟨rfl, rfl⟩) (fun z h1 q _ => ?_)
  obtain ⟨rfl, rfl⟩ := q
  refine J_ishrE (v := slen o) 10 rfl (slen_in o) ⟨by decide, by decide⟩ (by show slen o / 2 ^ (0 : Nat) = _; rw [Int.pow_zero, Int.ediv_one]) (D_S_len.at 5 rfl) ?_
  exact J_iret rfl (D_S_len.at 6 rfl) T
theorem C_pck {x y : Int} (hx : 0 ≤ x ∧ x < y) (hy : inR y) (T : K x h) : CGm w true m_S_pck 1 NT NT [vI x, vI y, vR 5000] h K := by
  refine CGm_of3 (by decide +kernel) (by decide) trivial (Nat.le_of_ble_eq_true rfl) ?_
  refine J_iload_n 1 rfl 0 0 rfl (D_S_pck.at 0 rfl) ?_
  refine J_if_lt 4 rfl 9 ⟨by omega, by omega⟩ (D_S_pck.at 1 rfl) (by decide) (fun c => absurd hx.1 (by omega)) (fun _ => ?_)
  refine J_iload_n 5 rfl 0 0 rfl (D_S_pck.at 2 rfl) ?_
  refine J_iload_n 6 rfl 1 1 rfl (D_S_pck.at 3 rfl) ?_
  refine J_icmp_lt 9 rfl 16 ⟨by omega, by omega⟩ hy (D_S_pck.at 4 rfl) (by decide) (fun _ => ?_) (fun c => absurd hx.2 c)
  refine J_iload_n 17 rfl 0 0 rfl (D_S_pck.at 10 rfl) ?_
  exact J_iret rfl (D_S_pck.at 11 rfl) T
theorem C_chk {x y : Int} (hx : 0 ≤ x ∧ x < y) (hy : inR y) (T : K 0 h) : CGm w true m_S_chk 2 NT NT [vI x, vI y] h K := by
  refine CGm_of3 (by decide +kernel) (by decide) trivial (Nat.le_of_ble_eq_true rfl) ?_
  refine J_iload_n 1 rfl 0 0 rfl (D_S_chk.at 0 rfl) ?_
  refine J_iload_n 2 rfl 1 1 rfl (D_S_chk.at 1 rfl) ?_
  refine J_sfor 5 rfl rfl (D_S_chk.at 2 rfl) ?_
  refine J_callS (d' := 1) (sr := fun z => [vI z]) (K1 := fun z h1 => z = x ∧ h1 = h) (as := [vI x, vI y, vR 5000]) (st := []) 8 rfl ok_S_pck sm_S_pck ml_S_pck rfl (by decide) ⟨Nat.le_refl _, Nat.le_refl _⟩ (Nat.le_of_ble_eq_true rfl) (D_S_chk.at 3 rfl) (fun _ => rfl) (C_pck hx hy ⟨rfl, rfl⟩) (fun z h1 q _ => ?_)
  obtain ⟨rfl, rfl⟩ := q
  refine J_pop 9 rfl rfl (D_S_chk.at 4 rfl) ?_
  exact J_vret rfl (D_S_chk.at 5 rfl) T
theorem C_l1c {o i : Int} (hs : St o) (hi : 0 ≤ i ∧ i < slen o) (T : K (sch o i) h) : CGm w true m_S_l1c 3 NT NT [vR (o + 2000), vI i] h K := by
  refine CGm_of3 (by decide +kernel) (by decide) trivial (Nat.le_of_ble_eq_true rfl) ?_
  have hr : 0 ≤ o + 2000 ∧ o + 2000 < 5000 := by have := hs.rng; have h1 := nSt_lt; obtain ⟨h2, h3⟩ := hs; omega
  have hb := sch_b o i
  have hsl := slen_in o
  refine J_iload_n 1 rfl 1 1 rfl (D_S_l1c.at 0 rfl) ?_
  refine J_aload_n 2 rfl 0 0 rfl hr (D_S_l1c.at 1 rfl) ?_
  refine J_salen 3 rfl hs (D_S_l1c.at 2 rfl) ?_
  refine J_callS (d' := 2) (sr := fun z => []) (K1 := fun z h1 => h1 = h) (as := [vI i, vI (slen o)]) (st := []) 6 rfl ok_S_chk sm_S_chk ml_S_chk rfl (by decide) ⟨Nat.le_refl _, Nat.le_refl _⟩ (Nat.le_of_ble_eq_true rfl) (D_S_l1c.at 3 rfl) (fun _ => rfl) (C_chk hi hsl rfl) (fun z h1 q _ => ?_)
  subst q
  refine J_aload_n 7 rfl 0 0 rfl hr (D_S_l1c.at 4 rfl) ?_
  refine J_iload_n 8 rfl 1 1 rfl (D_S_l1c.at 5 rfl) ?_
  refine J_sbald 9 rfl hs hi (D_S_l1c.at 6 rfl) ?_
  refine J_sipush 12 rfl ⟨by decide, by decide⟩ (D_S_l1c.at 7 rfl) ?_
  refine J_maskE (mm := 256) 13 rfl 8 (by decide) rfl rfl (D_S_l1c.at 8 rfl) ?_
  rw [Int.emod_eq_of_lt hb.1 (by omega)]
  refine J_i2c 14 rfl ⟨hb.1, by omega⟩ (D_S_l1c.at 9 rfl) ?_
  exact J_cret rfl ⟨hb.1, by omega⟩ (D_S_l1c.at 10 rfl) T
theorem C_cha {o i : Int} (hs : St o) (hi : 0 ≤ i ∧ i < slen o) (T : K (sch o i) h) : CGm w true m_S_cha 4 NT NT [vR o, vI i] h K := by
  refine CGm_of3 (by decide +kernel) (by decide) trivial (Nat.le_of_ble_eq_true rfl) ?_
  have hb := sch_b o i
  refine J_aload_n 1 rfl 0 0 rfl hs.rng (D_S_cha.at 0 rfl) ?_
  refine J_callVs (d' := 1) (sr := fun z => [vI z]) (K1 := fun z h1 => z = 1 ∧ h1 = h) (as := []) (st := []) (o := o) 4 rfl ok_S_lat im_S_lat se_S_lat ml_S_lat rfl hs rfl (by decide) (Nat.le_of_ble_eq_true rfl) (D_S_cha.at 1 rfl) (fun _ => rfl) (C_lat hs ⟨rfl, rfl⟩) (fun z h1 q _ => ?_)
  obtain ⟨rfl, rfl⟩ := q
  refine J_if_eq 7 rfl 16 ⟨by decide, by decide⟩ (D_S_cha.at 2 rfl) (by decide) (fun c => absurd c (by decide)) (fun _ => ?_)
  refine J_aload_n 8 rfl 0 0 rfl hs.rng (D_S_cha.at 3 rfl) ?_
  refine J_sval 11 rfl hs rfl (D_S_cha.at 4 rfl) ?_
  refine J_iload_n 12 rfl 1 1 rfl (D_S_cha.at 5 rfl) ?_
  refine J_callS (d' := 3) (sr := fun z => [vI z]) (K1 := fun z h0 => z = sch o i ∧ h0 = h1) (as := [vR (o + 2000), vI i]) (st := []) 15 rfl ok_S_l1c sm_S_l1c ml_S_l1c rfl (by decide) ⟨Nat.le_refl _, Nat.le_refl _⟩ (Nat.le_of_ble_eq_true rfl) (D_S_cha.at 6 rfl) (fun _ => rfl) (C_l1c hs hi ⟨rfl, rfl⟩) (fun z h2 q _ => ?_)
  obtain ⟨rfl, rfl⟩ := q
  exact J_cret rfl ⟨hb.1, by omega⟩ (D_S_cha.at 7 rfl) T
theorem J_strlen (q : Nat) (hp : pc + 3 = q) {o : Int} {idx : Nat} (hs : St o) (hd0 : 7 ≤ d) (hcs : catS st ≤ 7) (hlk : inW (.methodLink M.1.cls idx ⟨"java/lang/String", "length", "()I"⟩)) (hd : decode M.2.1 pc = .ok (.invokevirtual idx, 3)) (k : JG w true M d NT NT q lv (vI (slen o) :: st) h K) : JG w true M d NT NT pc lv (vR o :: st) h K :=
  J_callVs (M' := m_S_len) (d' := 2) (sr := fun z => vI z :: st) (K1 := fun z h1 => z = slen o ∧ h1 = h) (as := []) (o := o) q hp ok_S_len im_S_len se_S_len hlk rfl hs rfl (by omega) (by omega) hd (fun _ => rfl) (C_len hs ⟨rfl, rfl⟩) (fun z h1 q _ => by obtain ⟨rfl, rfl⟩ := q; exact k)
theorem J_charAt (q : Nat) (hp : pc + 3 = q) {o i : Int} {idx : Nat} (hs : St o) (hi : 0 ≤ i ∧ i < slen o) (hd0 : 7 ≤ d) (hcs : catS st ≤ 7) (hlk : inW (.methodLink M.1.cls idx ⟨"java/lang/String", "charAt", "(I)C"⟩)) (hd : decode M.2.1 pc = .ok (.invokevirtual idx, 3)) (k : JG w true M d NT NT q lv (vI (sch o i) :: st) h K) : JG w true M d NT NT pc lv (vI i :: vR o :: st) h K :=
  J_callVs (M' := m_S_cha) (d' := 4) (sr := fun z => vI z :: st) (K1 := fun z h1 => z = sch o i ∧ h1 = h) (as := [vI i]) (o := o) q hp ok_S_cha im_S_cha se_S_cha hlk rfl hs rfl (by omega) (by omega) hd (fun _ => rfl) (C_cha hs hi ⟨rfl, rfl⟩) (fun z h1 q _ => by obtain ⟨rfl, rfl⟩ := q; exact k)
end ROWS7
