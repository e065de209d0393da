/-! the law's body -/
abbrev sL (w : Wd) : Nat := w.2.2.2.2.2.1.2.1
def sV (w : Wd) (i : Int) : Int := (w.2.2.2.2.2.1.2.2 i.toNat).toInt
theorem sV_in {w : Wd} {i : Int} : inR (sV w i) := ⟨Int32.le_toInt _, Int32.toInt_lt _⟩
section L6C
variable {w : Wd} {fz : Bool} {M : Mt} {d n1 n pc : Nat} {lv : List (Nat × Vl)} {st : List Vl} {h : Hp} {K : Int → Hp → Prop}
theorem J_sld (q : Nat) (hp : pc + 1 = q) {i : Int} (hi : 0 ≤ i ∧ i < sL w) (hd : decode M.2.1 pc = .ok (.iaload, 1)) (k : JG w fz M d n1 n q lv (vI (sV w i) :: st) h K) : JG w fz M d n1 n pc lv (vI i :: vR 2000 :: st) h K := by
  subst hp
  intro p l e R s m args below meth c H locs ls cells slots Q F hR hr hW hS hl
  have k2 := k p l e R s m args below meth c H locs ls cells slots Q F hR hr hW hS hl
  have Sc := F.2.2.2.2.2.2.2.1.2.2.1
  have hs : sL w ≤ 3072 := Sc.2.2
  have e1 : Int32.ofInt (sV w i) = w.2.2.2.2.2.1.2.2 (Int32.ofInt i).toNatClampNeg := by
    unfold sV
    rw [clamp_i32 hi.1 (by omega), Int32.ofInt_toInt]
  have e3 : tv w (vI (sV w i)) = .int (w.2.2.2.2.2.1.2.2 (Int32.ofInt i).toNatClampNeg) := congrArg Value.int e1
  rw [List.map_cons, e3] at k2
  rw [List.map_cons, List.map_cons]
  exact va_sld F.1 F.2.1 Sc.1 (Nat.lt_of_lt_of_le Sc.2.1 F.2.2.2.2.2.2.2.2.2) (Nat.not_le.mpr Sc.2.1) hS (vp_in_i32 hi.1 hi.2 (Nat.lt_of_le_of_lt Sc.2.2 (by decide))) hd k2
theorem J_slen (q : Nat) (hp : pc + 1 = q) (hd : decode M.2.1 pc = .ok (.arraylength, 1)) (k : JG w fz M d n1 n q lv (vI (sL w) :: st) h K) : JG w fz M d n1 n pc lv (vR 2000 :: st) h K := by
  subst hp
  intro p l e R s m args below meth c H locs ls cells slots Q F hR hr hW hS hl
  have k2 := k p l e R s m args below meth c H locs ls cells slots Q F hR hr hW hS hl
  have Sc := F.2.2.2.2.2.2.2.1.2.2.1
  rw [List.map_cons]
  exact va_slen F.1 F.2.1 Sc.1 (Nat.lt_of_lt_of_le Sc.2.1 F.2.2.2.2.2.2.2.2.2) (Nat.not_le.mpr Sc.2.1) hS hd k2
end L6C
section L6D
variable {w : Wd} {h : Hp} {K : Int → Hp → Prop} {c i : Int}
theorem law_at_0 (I : Inv c h) (hc : c ≤ 512) (hi : 0 ≤ i ∧ i + 6 ≤ sL w) (T : ∀ h1, Inv (c + 1) h1 → JG w true m_L_law 100 NT NT 1196 [(3, vI i), (2, vR 68), (1, vR 0), (0, vR 2000)] [] h1 K) : JG w true m_L_law 100 NT NT 180 [(3, vI i), (2, vR 68), (1, vR 0), (0, vR 2000)] [] h K := by
  refine J_aload_n 181 rfl 1 2 rfl ⟨by decide, by decide⟩ (D_L_law_0.at 22 rfl) ?_
  refine J_aload_n 182 rfl 0 3 rfl ⟨by decide, by decide⟩ (D_L_law_0.at 23 rfl) ?_
  refine J_iload_n 183 rfl 3 0 rfl (D_L_law_0.at 24 rfl) ?_
  refine J_iconst 184 rfl (D_L_law_0.at 25 rfl) ?_
  refine J_iadd 185 rfl (D_L_law_0.at 26 rfl) ?_
  refine J_sld 186 rfl ⟨by omega, by omega⟩ (D_L_law_0.at 27 rfl) ?_
  refine J_aload_n 187 rfl 0 3 rfl ⟨by decide, by decide⟩ (D_L_law_0.at 28 rfl) ?_
  refine J_iload_n 188 rfl 3 0 rfl (D_L_law_0.at 29 rfl) ?_
  refine J_iconst 189 rfl (D_L_law_0.at 30 rfl) ?_
  refine J_iadd 190 rfl (D_L_law_0.at 31 rfl) ?_
  refine J_sld 191 rfl ⟨by omega, by omega⟩ (D_L_law_0.at 32 rfl) ?_
  refine J_aload_n 192 rfl 0 3 rfl ⟨by decide, by decide⟩ (D_L_law_0.at 33 rfl) ?_
  refine J_iload_n 193 rfl 3 0 rfl (D_L_law_0.at 34 rfl) ?_
  refine J_iconst 194 rfl (D_L_law_0.at 35 rfl) ?_
  refine J_iadd 195 rfl (D_L_law_0.at 36 rfl) ?_
  refine J_sld 196 rfl ⟨by omega, by omega⟩ (D_L_law_0.at 37 rfl) ?_
  refine J_aload_n 197 rfl 0 3 rfl ⟨by decide, by decide⟩ (D_L_law_0.at 38 rfl) ?_
  refine J_iload_n 198 rfl 3 0 rfl (D_L_law_0.at 39 rfl) ?_
  refine J_iconst 199 rfl (D_L_law_0.at 40 rfl) ?_
  refine J_iadd 200 rfl (D_L_law_0.at 41 rfl) ?_
  refine J_sld 201 rfl ⟨by omega, by omega⟩ (D_L_law_0.at 42 rfl) ?_
  refine J_aload_n 202 rfl 0 3 rfl ⟨by decide, by decide⟩ (D_L_law_0.at 43 rfl) ?_
  refine J_iload_n 203 rfl 3 0 rfl (D_L_law_0.at 44 rfl) ?_
  refine J_iconst 204 rfl (D_L_law_0.at 45 rfl) ?_
  refine J_iadd 205 rfl (D_L_law_0.at 46 rfl) ?_
  refine J_sld 206 rfl ⟨by omega, by omega⟩ (D_L_law_0.at 47 rfl) ?_
  refine J_callV (d' := 2) (as := [vI (sV w (i + 1)), vI (sV w (i + 2)), vI (sV w (i + 3)), vI (sV w (i + 4)), vI (sV w (i + 5))]) (st := []) (o := 0) 209 rfl ok_X11_feed im_X11_feed se_X11_feed ml_L_13 isC_11 ob_0 (Ob.lt ob_0) rfl (by decide) ⟨Nat.le_refl _, Nat.le_refl _⟩ (Nat.le_of_ble_eq_true rfl) (D_L_law_1.at 0 rfl) (sr := fun z => [vI z]) (fun _ => rfl) (q_feed I sV_in sV_in sV_in sV_in sV_in) (fun r1 h1 T1 b1 => ?_)
  obtain ⟨rz, T1⟩ := T1
  refine J_aload_n 210 rfl 2 1 rfl ⟨by decide, by decide⟩ (D_L_law_1.at 1 rfl) ?_
  refine J_aload_n 211 rfl 0 3 rfl ⟨by decide, by decide⟩ (D_L_law_1.at 2 rfl) ?_
  refine J_iload_n 212 rfl 3 0 rfl (D_L_law_1.at 3 rfl) ?_
  refine J_iconst 213 rfl (D_L_law_1.at 4 rfl) ?_
  refine J_iadd 214 rfl (D_L_law_1.at 5 rfl) ?_
  refine J_sld 215 rfl ⟨by omega, by omega⟩ (D_L_law_1.at 6 rfl) ?_
  refine J_aload_n 216 rfl 0 3 rfl ⟨by decide, by decide⟩ (D_L_law_1.at 7 rfl) ?_
  refine J_iload_n 217 rfl 3 0 rfl (D_L_law_1.at 8 rfl) ?_
  refine J_iconst 218 rfl (D_L_law_1.at 9 rfl) ?_
  refine J_iadd 219 rfl (D_L_law_1.at 10 rfl) ?_
  refine J_sld 220 rfl ⟨by omega, by omega⟩ (D_L_law_1.at 11 rfl) ?_
  refine J_aload_n 221 rfl 0 3 rfl ⟨by decide, by decide⟩ (D_L_law_1.at 12 rfl) ?_
  refine J_iload_n 222 rfl 3 0 rfl (D_L_law_1.at 13 rfl) ?_
  refine J_iconst 223 rfl (D_L_law_1.at 14 rfl) ?_
  refine J_iadd 224 rfl (D_L_law_1.at 15 rfl) ?_
  refine J_sld 225 rfl ⟨by omega, by omega⟩ (D_L_law_1.at 16 rfl) ?_
  refine J_aload_n 226 rfl 0 3 rfl ⟨by decide, by decide⟩ (D_L_law_1.at 17 rfl) ?_
  refine J_iload_n 227 rfl 3 0 rfl (D_L_law_1.at 18 rfl) ?_
  refine J_iconst 228 rfl (D_L_law_1.at 19 rfl) ?_
  refine J_iadd 229 rfl (D_L_law_1.at 20 rfl) ?_
  refine J_sld 230 rfl ⟨by omega, by omega⟩ (D_L_law_1.at 21 rfl) ?_
  refine J_aload_n 231 rfl 0 3 rfl ⟨by decide, by decide⟩ (D_L_law_1.at 22 rfl) ?_
  refine J_iload_n 232 rfl 3 0 rfl (D_L_law_1.at 23 rfl) ?_
  refine J_iconst 233 rfl (D_L_law_1.at 24 rfl) ?_
  refine J_iadd 234 rfl (D_L_law_1.at 25 rfl) ?_
  refine J_sld 235 rfl ⟨by omega, by omega⟩ (D_L_law_1.at 26 rfl) ?_
  refine J_callV (d' := 1) (as := [vI (sV w (i + 1)), vI (sV w (i + 2)), vI (sV w (i + 3)), vI (sV w (i + 4)), vI (sV w (i + 5))]) (st := [vI r1]) (o := 68) 238 rfl ok_X12_feed im_X12_feed se_X12_feed ml_L_17 isC_12 ob_68 (Ob.lt ob_68) rfl (by decide) ⟨Nat.le_refl _, Nat.le_refl _⟩ (Nat.le_of_ble_eq_true rfl) (D_L_law_1.at 27 rfl) (sr := fun z => [vI z, vI r1]) (fun _ => rfl) T1 (fun r2 h2 T2 b2 => ?_)
  obtain ⟨e2, I2⟩ := T2
  subst e2
  refine J_icmp_eq 241 rfl 1196 rz rz (D_L_law_1.at 28 rfl) (by decide) (fun _ => ?_) (fun c => absurd rfl c)
  exact T _ I2
theorem law_at_1 (I : Inv c h) (hc : c ≤ 512) (hi : 0 ≤ i ∧ i + 6 ≤ sL w) (T : ∀ h1, Inv (c + 1) h1 → JG w true m_L_law 100 NT NT 1196 [(3, vI i), (2, vR 68), (1, vR 0), (0, vR 2000)] [] h1 K) : JG w true m_L_law 100 NT NT 243 [(3, vI i), (2, vR 68), (1, vR 0), (0, vR 2000)] [] h K := by
  refine J_aload_n 244 rfl 1 2 rfl ⟨by decide, by decide⟩ (D_L_law_1.at 31 rfl) ?_
  refine J_aload_n 245 rfl 0 3 rfl ⟨by decide, by decide⟩ (D_L_law_1.at 32 rfl) ?_
  refine J_iload_n 246 rfl 3 0 rfl (D_L_law_1.at 33 rfl) ?_
  refine J_iconst 247 rfl (D_L_law_1.at 34 rfl) ?_
  refine J_iadd 248 rfl (D_L_law_1.at 35 rfl) ?_
  refine J_sld 249 rfl ⟨by omega, by omega⟩ (D_L_law_1.at 36 rfl) ?_
  refine J_callV (d' := 3) (as := [vI (sV w (i + 1))]) (st := []) (o := 0) 252 rfl ok_X11_end im_X11_end se_X11_end ml_L_18 isC_11 ob_0 (Ob.lt ob_0) rfl (by decide) ⟨Nat.le_refl _, Nat.le_refl _⟩ (Nat.le_of_ble_eq_true rfl) (D_L_law_1.at 37 rfl) (sr := fun z => [vI z]) (fun _ => rfl) (q_end I sV_in) (fun r1 h1 T1 b1 => ?_)
  have rz : inR r1 := inR_b b1
  replace T1 := T1 b1
  refine J_aload_n 253 rfl 2 1 rfl ⟨by decide, by decide⟩ (D_L_law_1.at 38 rfl) ?_
  refine J_aload_n 254 rfl 0 3 rfl ⟨by decide, by decide⟩ (D_L_law_1.at 39 rfl) ?_
  refine J_iload_n 255 rfl 3 0 rfl (D_L_law_1.at 40 rfl) ?_
  refine J_iconst 256 rfl (D_L_law_1.at 41 rfl) ?_
  refine J_iadd 257 rfl (D_L_law_1.at 42 rfl) ?_
  refine J_sld 258 rfl ⟨by omega, by omega⟩ (D_L_law_1.at 43 rfl) ?_
  refine J_callV (d' := 1) (as := [vI (sV w (i + 1))]) (st := [vI r1]) (o := 68) 261 rfl ok_X12_end im_X12_end se_X12_end ml_L_22 isC_12 ob_68 (Ob.lt ob_68) rfl (by decide) ⟨Nat.le_refl _, Nat.le_refl _⟩ (Nat.le_of_ble_eq_true rfl) (D_L_law_1.at 44 rfl) (sr := fun z => [vI z, vI r1]) (fun _ => rfl) T1 (fun r2 h2 T2 b2 => ?_)
  obtain ⟨e2, I2⟩ := T2
  subst e2
  refine J_icmp_eq 264 rfl 1196 rz rz (D_L_law_1.at 45 rfl) (by decide) (fun _ => ?_) (fun c => absurd rfl c)
  exact T _ I2
theorem law_at_2 (I : Inv c h) (hc : c ≤ 512) (hi : 0 ≤ i ∧ i + 6 ≤ sL w) (T : ∀ h1, Inv (c + 1) h1 → JG w true m_L_law 100 NT NT 1196 [(3, vI i), (2, vR 68), (1, vR 0), (0, vR 2000)] [] h1 K) : JG w true m_L_law 100 NT NT 266 [(3, vI i), (2, vR 68), (1, vR 0), (0, vR 2000)] [] h K := by
  refine J_aload_n 267 rfl 1 2 rfl ⟨by decide, by decide⟩ (D_L_law_2.at 0 rfl) ?_
  refine J_callV (d' := 64) (as := []) (st := []) (o := 0) 270 rfl ok_X11_river im_X11_river se_X11_river ml_L_23 isC_11 ob_0 (Ob.lt ob_0) rfl (by decide) ⟨Nat.le_refl _, Nat.le_refl _⟩ (Nat.le_of_ble_eq_true rfl) (D_L_law_2.at 1 rfl) (sr := fun z => [vI z]) (fun _ => rfl) (q_river I) (fun r1 h1 T1 b1 => ?_)
  obtain ⟨rz, T1⟩ := T1
  refine J_aload_n 271 rfl 2 1 rfl ⟨by decide, by decide⟩ (D_L_law_2.at 2 rfl) ?_
  refine J_callV (d' := 9) (as := []) (st := [vI r1]) (o := 68) 274 rfl ok_X12_river im_X12_river se_X12_river ml_L_27 isC_12 ob_68 (Ob.lt ob_68) rfl (by decide) ⟨Nat.le_refl _, Nat.le_refl _⟩ (Nat.le_of_ble_eq_true rfl) (D_L_law_2.at 3 rfl) (sr := fun z => [vI z, vI r1]) (fun _ => rfl) T1 (fun r2 h2 T2 b2 => ?_)
  obtain ⟨e2, I2⟩ := T2
  subst e2
  refine J_icmp_eq 277 rfl 1196 rz rz (D_L_law_2.at 4 rfl) (by decide) (fun _ => ?_) (fun c => absurd rfl c)
  exact T _ I2
theorem law_at_3 (I : Inv c h) (hc : c ≤ 512) (hi : 0 ≤ i ∧ i + 6 ≤ sL w) (T : ∀ h1, Inv (c + 1) h1 → JG w true m_L_law 100 NT NT 1196 [(3, vI i), (2, vR 68), (1, vR 0), (0, vR 2000)] [] h1 K) : JG w true m_L_law 100 NT NT 279 [(3, vI i), (2, vR 68), (1, vR 0), (0, vR 2000)] [] h K := by
  refine J_aload_n 280 rfl 1 2 rfl ⟨by decide, by decide⟩ (D_L_law_2.at 7 rfl) ?_
  refine J_aload_n 281 rfl 0 3 rfl ⟨by decide, by decide⟩ (D_L_law_2.at 8 rfl) ?_
  refine J_iload_n 282 rfl 3 0 rfl (D_L_law_2.at 9 rfl) ?_
  refine J_iconst 283 rfl (D_L_law_2.at 10 rfl) ?_
  refine J_iadd 284 rfl (D_L_law_2.at 11 rfl) ?_
  refine J_sld 285 rfl ⟨by omega, by omega⟩ (D_L_law_2.at 12 rfl) ?_
  refine J_callV (d' := 1) (as := [vI (sV w (i + 1))]) (st := []) (o := 0) 288 rfl ok_X11_fault im_X11_fault se_X11_fault ml_L_28 isC_11 ob_0 (Ob.lt ob_0) rfl (by decide) ⟨Nat.le_refl _, Nat.le_refl _⟩ (Nat.le_of_ble_eq_true rfl) (D_L_law_2.at 13 rfl) (sr := fun z => [vI z]) (fun _ => rfl) (q_fault I sV_in) (fun r1 h1 T1 b1 => ?_)
  obtain ⟨rz, T1⟩ := T1
  refine J_aload_n 289 rfl 2 1 rfl ⟨by decide, by decide⟩ (D_L_law_2.at 14 rfl) ?_
  refine J_aload_n 290 rfl 0 3 rfl ⟨by decide, by decide⟩ (D_L_law_2.at 15 rfl) ?_
  refine J_iload_n 291 rfl 3 0 rfl (D_L_law_2.at 16 rfl) ?_
  refine J_iconst 292 rfl (D_L_law_2.at 17 rfl) ?_
  refine J_iadd 293 rfl (D_L_law_2.at 18 rfl) ?_
  refine J_sld 294 rfl ⟨by omega, by omega⟩ (D_L_law_2.at 19 rfl) ?_
  refine J_callV (d' := 1) (as := [vI (sV w (i + 1))]) (st := [vI r1]) (o := 68) 297 rfl ok_X12_fault im_X12_fault se_X12_fault ml_L_32 isC_12 ob_68 (Ob.lt ob_68) rfl (by decide) ⟨Nat.le_refl _, Nat.le_refl _⟩ (Nat.le_of_ble_eq_true rfl) (D_L_law_2.at 20 rfl) (sr := fun z => [vI z, vI r1]) (fun _ => rfl) T1 (fun r2 h2 T2 b2 => ?_)
  obtain ⟨e2, I2⟩ := T2
  subst e2
  refine J_icmp_eq 300 rfl 1196 rz rz (D_L_law_2.at 21 rfl) (by decide) (fun _ => ?_) (fun c => absurd rfl c)
  exact T _ I2
theorem law_at_4 (I : Inv c h) (hc : c ≤ 512) (hi : 0 ≤ i ∧ i + 6 ≤ sL w) (T : ∀ h1, Inv (c + 1) h1 → JG w true m_L_law 100 NT NT 1196 [(3, vI i), (2, vR 68), (1, vR 0), (0, vR 2000)] [] h1 K) : JG w true m_L_law 100 NT NT 302 [(3, vI i), (2, vR 68), (1, vR 0), (0, vR 2000)] [] h K := by
  refine J_aload_n 303 rfl 1 2 rfl ⟨by decide, by decide⟩ (D_L_law_2.at 24 rfl) ?_
  refine J_aload_n 304 rfl 0 3 rfl ⟨by decide, by decide⟩ (D_L_law_2.at 25 rfl) ?_
  refine J_iload_n 305 rfl 3 0 rfl (D_L_law_2.at 26 rfl) ?_
  refine J_iconst 306 rfl (D_L_law_2.at 27 rfl) ?_
  refine J_iadd 307 rfl (D_L_law_2.at 28 rfl) ?_
  refine J_sld 308 rfl ⟨by omega, by omega⟩ (D_L_law_2.at 29 rfl) ?_
  refine J_callV (d' := 2) (as := [vI (sV w (i + 1))]) (st := []) (o := 0) 311 rfl ok_X11_has im_X11_has se_X11_has ml_L_33 isC_11 ob_0 (Ob.lt ob_0) rfl (by decide) ⟨Nat.le_refl _, Nat.le_refl _⟩ (Nat.le_of_ble_eq_true rfl) (D_L_law_2.at 30 rfl) (sr := fun z => [vI z]) (fun _ => rfl) (q_has I sV_in) (fun r1 h1 T1 b1 => ?_)
  obtain ⟨rz, T1⟩ := T1
  refine J_aload_n 312 rfl 2 1 rfl ⟨by decide, by decide⟩ (D_L_law_2.at 31 rfl) ?_
  refine J_aload_n 313 rfl 0 3 rfl ⟨by decide, by decide⟩ (D_L_law_2.at 32 rfl) ?_
  refine J_iload_n 314 rfl 3 0 rfl (D_L_law_2.at 33 rfl) ?_
  refine J_iconst 315 rfl (D_L_law_2.at 34 rfl) ?_
  refine J_iadd 316 rfl (D_L_law_2.at 35 rfl) ?_
  refine J_sld 317 rfl ⟨by omega, by omega⟩ (D_L_law_2.at 36 rfl) ?_
  refine J_callV (d' := 2) (as := [vI (sV w (i + 1))]) (st := [vI r1]) (o := 68) 320 rfl ok_X12_has im_X12_has se_X12_has ml_L_36 isC_12 ob_68 (Ob.lt ob_68) rfl (by decide) ⟨Nat.le_refl _, Nat.le_refl _⟩ (Nat.le_of_ble_eq_true rfl) (D_L_law_2.at 37 rfl) (sr := fun z => [vI z, vI r1]) (fun _ => rfl) T1 (fun r2 h2 T2 b2 => ?_)
  obtain ⟨e2, I2⟩ := T2
  subst e2
  refine J_icmp_eq 323 rfl 1196 rz rz (D_L_law_2.at 38 rfl) (by decide) (fun _ => ?_) (fun c => absurd rfl c)
  exact T _ I2
theorem law_at_5 (I : Inv c h) (hc : c ≤ 512) (hi : 0 ≤ i ∧ i + 6 ≤ sL w) (T : ∀ h1, Inv (c + 1) h1 → JG w true m_L_law 100 NT NT 1196 [(3, vI i), (2, vR 68), (1, vR 0), (0, vR 2000)] [] h1 K) : JG w true m_L_law 100 NT NT 325 [(3, vI i), (2, vR 68), (1, vR 0), (0, vR 2000)] [] h K := by
  refine J_aload_n 326 rfl 1 2 rfl ⟨by decide, by decide⟩ (D_L_law_2.at 41 rfl) ?_
  refine J_aload_n 327 rfl 0 3 rfl ⟨by decide, by decide⟩ (D_L_law_2.at 42 rfl) ?_
  refine J_iload_n 328 rfl 3 0 rfl (D_L_law_2.at 43 rfl) ?_
  refine J_iconst 329 rfl (D_L_law_2.at 44 rfl) ?_
  refine J_iadd 330 rfl (D_L_law_2.at 45 rfl) ?_
  refine J_sld 331 rfl ⟨by omega, by omega⟩ (D_L_law_2.at 46 rfl) ?_
  refine J_aload_n 332 rfl 0 3 rfl ⟨by decide, by decide⟩ (D_L_law_2.at 47 rfl) ?_
  refine J_iload_n 333 rfl 3 0 rfl (D_L_law_3.at 0 rfl) ?_
  refine J_iconst 334 rfl (D_L_law_3.at 1 rfl) ?_
  refine J_iadd 335 rfl (D_L_law_3.at 2 rfl) ?_
  refine J_sld 336 rfl ⟨by omega, by omega⟩ (D_L_law_3.at 3 rfl) ?_
  refine J_aload_n 337 rfl 0 3 rfl ⟨by decide, by decide⟩ (D_L_law_3.at 4 rfl) ?_
  refine J_iload_n 338 rfl 3 0 rfl (D_L_law_3.at 5 rfl) ?_
  refine J_iconst 339 rfl (D_L_law_3.at 6 rfl) ?_
  refine J_iadd 340 rfl (D_L_law_3.at 7 rfl) ?_
  refine J_sld 341 rfl ⟨by omega, by omega⟩ (D_L_law_3.at 8 rfl) ?_
  refine J_callV (d' := 2) (as := [vI (sV w (i + 1)), vI (sV w (i + 2)), vI (sV w (i + 3))]) (st := []) (o := 0) 344 rfl ok_X11_letter im_X11_letter se_X11_letter ml_L_37 isC_11 ob_0 (Ob.lt ob_0) rfl (by decide) ⟨Nat.le_refl _, Nat.le_refl _⟩ (Nat.le_of_ble_eq_true rfl) (D_L_law_3.at 9 rfl) (sr := fun z => [vI z]) (fun _ => rfl) (q_letter I sV_in sV_in sV_in) (fun r1 h1 T1 b1 => ?_)
  obtain ⟨rz, T1⟩ := T1
  refine J_aload_n 345 rfl 2 1 rfl ⟨by decide, by decide⟩ (D_L_law_3.at 10 rfl) ?_
  refine J_aload_n 346 rfl 0 3 rfl ⟨by decide, by decide⟩ (D_L_law_3.at 11 rfl) ?_
  refine J_iload_n 347 rfl 3 0 rfl (D_L_law_3.at 12 rfl) ?_
  refine J_iconst 348 rfl (D_L_law_3.at 13 rfl) ?_
  refine J_iadd 349 rfl (D_L_law_3.at 14 rfl) ?_
  refine J_sld 350 rfl ⟨by omega, by omega⟩ (D_L_law_3.at 15 rfl) ?_
  refine J_aload_n 351 rfl 0 3 rfl ⟨by decide, by decide⟩ (D_L_law_3.at 16 rfl) ?_
  refine J_iload_n 352 rfl 3 0 rfl (D_L_law_3.at 17 rfl) ?_
  refine J_iconst 353 rfl (D_L_law_3.at 18 rfl) ?_
  refine J_iadd 354 rfl (D_L_law_3.at 19 rfl) ?_
  refine J_sld 355 rfl ⟨by omega, by omega⟩ (D_L_law_3.at 20 rfl) ?_
  refine J_aload_n 356 rfl 0 3 rfl ⟨by decide, by decide⟩ (D_L_law_3.at 21 rfl) ?_
  refine J_iload_n 357 rfl 3 0 rfl (D_L_law_3.at 22 rfl) ?_
  refine J_iconst 358 rfl (D_L_law_3.at 23 rfl) ?_
  refine J_iadd 359 rfl (D_L_law_3.at 24 rfl) ?_
  refine J_sld 360 rfl ⟨by omega, by omega⟩ (D_L_law_3.at 25 rfl) ?_
  refine J_callV (d' := 2) (as := [vI (sV w (i + 1)), vI (sV w (i + 2)), vI (sV w (i + 3))]) (st := [vI r1]) (o := 68) 363 rfl ok_X12_letter im_X12_letter se_X12_letter ml_L_41 isC_12 ob_68 (Ob.lt ob_68) rfl (by decide) ⟨Nat.le_refl _, Nat.le_refl _⟩ (Nat.le_of_ble_eq_true rfl) (D_L_law_3.at 26 rfl) (sr := fun z => [vI z, vI r1]) (fun _ => rfl) T1 (fun r2 h2 T2 b2 => ?_)
  obtain ⟨e2, I2⟩ := T2
  subst e2
  refine J_icmp_eq 366 rfl 1196 rz rz (D_L_law_3.at 27 rfl) (by decide) (fun _ => ?_) (fun c => absurd rfl c)
  exact T _ I2
theorem law_at_6 (I : Inv c h) (hc : c ≤ 512) (hi : 0 ≤ i ∧ i + 6 ≤ sL w) (T : ∀ h1, Inv (c + 1) h1 → JG w true m_L_law 100 NT NT 1196 [(3, vI i), (2, vR 68), (1, vR 0), (0, vR 2000)] [] h1 K) : JG w true m_L_law 100 NT NT 368 [(3, vI i), (2, vR 68), (1, vR 0), (0, vR 2000)] [] h K := by
  refine J_aload_n 369 rfl 1 2 rfl ⟨by decide, by decide⟩ (D_L_law_3.at 30 rfl) ?_
  refine J_aload_n 370 rfl 0 3 rfl ⟨by decide, by decide⟩ (D_L_law_3.at 31 rfl) ?_
  refine J_iload_n 371 rfl 3 0 rfl (D_L_law_3.at 32 rfl) ?_
  refine J_iconst 372 rfl (D_L_law_3.at 33 rfl) ?_
  refine J_iadd 373 rfl (D_L_law_3.at 34 rfl) ?_
  refine J_sld 374 rfl ⟨by omega, by omega⟩ (D_L_law_3.at 35 rfl) ?_
  refine J_aload_n 375 rfl 0 3 rfl ⟨by decide, by decide⟩ (D_L_law_3.at 36 rfl) ?_
  refine J_iload_n 376 rfl 3 0 rfl (D_L_law_3.at 37 rfl) ?_
  refine J_iconst 377 rfl (D_L_law_3.at 38 rfl) ?_
  refine J_iadd 378 rfl (D_L_law_3.at 39 rfl) ?_
  refine J_sld 379 rfl ⟨by omega, by omega⟩ (D_L_law_3.at 40 rfl) ?_
  refine J_callV (d' := 3) (as := [vI (sV w (i + 1)), vI (sV w (i + 2))]) (st := []) (o := 0) 382 rfl ok_X11_bank im_X11_bank se_X11_bank ml_L_42 isC_11 ob_0 (Ob.lt ob_0) rfl (by decide) ⟨Nat.le_refl _, Nat.le_refl _⟩ (Nat.le_of_ble_eq_true rfl) (D_L_law_3.at 41 rfl) (sr := fun z => [vI z]) (fun _ => rfl) (q_bank I sV_in sV_in) (fun r1 h1 T1 b1 => ?_)
  obtain ⟨rz, T1⟩ := T1
  refine J_aload_n 383 rfl 2 1 rfl ⟨by decide, by decide⟩ (D_L_law_3.at 42 rfl) ?_
  refine J_aload_n 384 rfl 0 3 rfl ⟨by decide, by decide⟩ (D_L_law_3.at 43 rfl) ?_
  refine J_iload_n 385 rfl 3 0 rfl (D_L_law_3.at 44 rfl) ?_
  refine J_iconst 386 rfl (D_L_law_3.at 45 rfl) ?_
  refine J_iadd 387 rfl (D_L_law_3.at 46 rfl) ?_
  refine J_sld 388 rfl ⟨by omega, by omega⟩ (D_L_law_3.at 47 rfl) ?_
  refine J_aload_n 389 rfl 0 3 rfl ⟨by decide, by decide⟩ (D_L_law_4.at 0 rfl) ?_
  refine J_iload_n 390 rfl 3 0 rfl (D_L_law_4.at 1 rfl) ?_
  refine J_iconst 391 rfl (D_L_law_4.at 2 rfl) ?_
  refine J_iadd 392 rfl (D_L_law_4.at 3 rfl) ?_
  refine J_sld 393 rfl ⟨by omega, by omega⟩ (D_L_law_4.at 4 rfl) ?_
  refine J_callV (d' := 3) (as := [vI (sV w (i + 1)), vI (sV w (i + 2))]) (st := [vI r1]) (o := 68) 396 rfl ok_X12_bank im_X12_bank se_X12_bank ml_L_46 isC_12 ob_68 (Ob.lt ob_68) rfl (by decide) ⟨Nat.le_refl _, Nat.le_refl _⟩ (Nat.le_of_ble_eq_true rfl) (D_L_law_4.at 5 rfl) (sr := fun z => [vI z, vI r1]) (fun _ => rfl) T1 (fun r2 h2 T2 b2 => ?_)
  obtain ⟨e2, I2⟩ := T2
  subst e2
  refine J_icmp_eq 399 rfl 1196 rz rz (D_L_law_4.at 6 rfl) (by decide) (fun _ => ?_) (fun c => absurd rfl c)
  exact T _ I2
theorem law_at_7 (I : Inv c h) (hc : c ≤ 512) (hi : 0 ≤ i ∧ i + 6 ≤ sL w) (T : ∀ h1, Inv (c + 1) h1 → JG w true m_L_law 100 NT NT 1196 [(3, vI i), (2, vR 68), (1, vR 0), (0, vR 2000)] [] h1 K) : JG w true m_L_law 100 NT NT 401 [(3, vI i), (2, vR 68), (1, vR 0), (0, vR 2000)] [] h K := by
  refine J_aload_n 402 rfl 1 2 rfl ⟨by decide, by decide⟩ (D_L_law_4.at 9 rfl) ?_
  refine J_aload_n 403 rfl 0 3 rfl ⟨by decide, by decide⟩ (D_L_law_4.at 10 rfl) ?_
  refine J_iload_n 404 rfl 3 0 rfl (D_L_law_4.at 11 rfl) ?_
  refine J_iconst 405 rfl (D_L_law_4.at 12 rfl) ?_
  refine J_iadd 406 rfl (D_L_law_4.at 13 rfl) ?_
  refine J_sld 407 rfl ⟨by omega, by omega⟩ (D_L_law_4.at 14 rfl) ?_
  refine J_aload_n 408 rfl 0 3 rfl ⟨by decide, by decide⟩ (D_L_law_4.at 15 rfl) ?_
  refine J_iload_n 409 rfl 3 0 rfl (D_L_law_4.at 16 rfl) ?_
  refine J_iconst 410 rfl (D_L_law_4.at 17 rfl) ?_
  refine J_iadd 411 rfl (D_L_law_4.at 18 rfl) ?_
  refine J_sld 412 rfl ⟨by omega, by omega⟩ (D_L_law_4.at 19 rfl) ?_
  refine J_callV (d' := 6) (as := [vI (sV w (i + 1)), vI (sV w (i + 2))]) (st := []) (o := 0) 415 rfl ok_X11_reach im_X11_reach se_X11_reach ml_L_47 isC_11 ob_0 (Ob.lt ob_0) rfl (by decide) ⟨Nat.le_refl _, Nat.le_refl _⟩ (Nat.le_of_ble_eq_true rfl) (D_L_law_4.at 20 rfl) (sr := fun z => [vI z]) (fun _ => rfl) (q_reach I sV_in sV_in) (fun r1 h1 T1 b1 => ?_)
  obtain ⟨rz, T1⟩ := T1
  refine J_aload_n 416 rfl 2 1 rfl ⟨by decide, by decide⟩ (D_L_law_4.at 21 rfl) ?_
  refine J_aload_n 417 rfl 0 3 rfl ⟨by decide, by decide⟩ (D_L_law_4.at 22 rfl) ?_
  refine J_iload_n 418 rfl 3 0 rfl (D_L_law_4.at 23 rfl) ?_
  refine J_iconst 419 rfl (D_L_law_4.at 24 rfl) ?_
  refine J_iadd 420 rfl (D_L_law_4.at 25 rfl) ?_
  refine J_sld 421 rfl ⟨by omega, by omega⟩ (D_L_law_4.at 26 rfl) ?_
  refine J_aload_n 422 rfl 0 3 rfl ⟨by decide, by decide⟩ (D_L_law_4.at 27 rfl) ?_
  refine J_iload_n 423 rfl 3 0 rfl (D_L_law_4.at 28 rfl) ?_
  refine J_iconst 424 rfl (D_L_law_4.at 29 rfl) ?_
  refine J_iadd 425 rfl (D_L_law_4.at 30 rfl) ?_
  refine J_sld 426 rfl ⟨by omega, by omega⟩ (D_L_law_4.at 31 rfl) ?_
  refine J_callV (d' := 7) (as := [vI (sV w (i + 1)), vI (sV w (i + 2))]) (st := [vI r1]) (o := 68) 429 rfl ok_X12_reach im_X12_reach se_X12_reach ml_L_50 isC_12 ob_68 (Ob.lt ob_68) rfl (by decide) ⟨Nat.le_refl _, Nat.le_refl _⟩ (Nat.le_of_ble_eq_true rfl) (D_L_law_4.at 32 rfl) (sr := fun z => [vI z, vI r1]) (fun _ => rfl) T1 (fun r2 h2 T2 b2 => ?_)
  obtain ⟨e2, I2⟩ := T2
  subst e2
  refine J_icmp_eq 432 rfl 1196 rz rz (D_L_law_4.at 33 rfl) (by decide) (fun _ => ?_) (fun c => absurd rfl c)
  exact T _ I2
theorem law_at_8 (I : Inv c h) (hc : c ≤ 512) (hi : 0 ≤ i ∧ i + 6 ≤ sL w) (T : ∀ h1, Inv (c + 1) h1 → JG w true m_L_law 100 NT NT 1196 [(3, vI i), (2, vR 68), (1, vR 0), (0, vR 2000)] [] h1 K) : JG w true m_L_law 100 NT NT 434 [(3, vI i), (2, vR 68), (1, vR 0), (0, vR 2000)] [] h K := by
  refine J_aload_n 435 rfl 1 2 rfl ⟨by decide, by decide⟩ (D_L_law_4.at 36 rfl) ?_
  refine J_aload_n 436 rfl 0 3 rfl ⟨by decide, by decide⟩ (D_L_law_4.at 37 rfl) ?_
  refine J_iload_n 437 rfl 3 0 rfl (D_L_law_4.at 38 rfl) ?_
  refine J_iconst 438 rfl (D_L_law_4.at 39 rfl) ?_
  refine J_iadd 439 rfl (D_L_law_4.at 40 rfl) ?_
  refine J_sld 440 rfl ⟨by omega, by omega⟩ (D_L_law_4.at 41 rfl) ?_
  refine J_aload_n 441 rfl 0 3 rfl ⟨by decide, by decide⟩ (D_L_law_4.at 42 rfl) ?_
  refine J_iload_n 442 rfl 3 0 rfl (D_L_law_4.at 43 rfl) ?_
  refine J_iconst 443 rfl (D_L_law_4.at 44 rfl) ?_
  refine J_iadd 444 rfl (D_L_law_4.at 45 rfl) ?_
  refine J_sld 445 rfl ⟨by omega, by omega⟩ (D_L_law_4.at 46 rfl) ?_
  refine J_callV (d' := 2) (as := [vI (sV w (i + 1)), vI (sV w (i + 2))]) (st := []) (o := 0) 448 rfl ok_X11_lies im_X11_lies se_X11_lies ml_L_51 isC_11 ob_0 (Ob.lt ob_0) rfl (by decide) ⟨Nat.le_refl _, Nat.le_refl _⟩ (Nat.le_of_ble_eq_true rfl) (D_L_law_4.at 47 rfl) (sr := fun z => [vI z]) (fun _ => rfl) (q_lies I sV_in sV_in) (fun r1 h1 T1 b1 => ?_)
  obtain ⟨rz, T1⟩ := T1
  refine J_aload_n 449 rfl 2 1 rfl ⟨by decide, by decide⟩ (D_L_law_5.at 0 rfl) ?_
  refine J_aload_n 450 rfl 0 3 rfl ⟨by decide, by decide⟩ (D_L_law_5.at 1 rfl) ?_
  refine J_iload_n 451 rfl 3 0 rfl (D_L_law_5.at 2 rfl) ?_
  refine J_iconst 452 rfl (D_L_law_5.at 3 rfl) ?_
  refine J_iadd 453 rfl (D_L_law_5.at 4 rfl) ?_
  refine J_sld 454 rfl ⟨by omega, by omega⟩ (D_L_law_5.at 5 rfl) ?_
  refine J_aload_n 455 rfl 0 3 rfl ⟨by decide, by decide⟩ (D_L_law_5.at 6 rfl) ?_
  refine J_iload_n 456 rfl 3 0 rfl (D_L_law_5.at 7 rfl) ?_
  refine J_iconst 457 rfl (D_L_law_5.at 8 rfl) ?_
  refine J_iadd 458 rfl (D_L_law_5.at 9 rfl) ?_
  refine J_sld 459 rfl ⟨by omega, by omega⟩ (D_L_law_5.at 10 rfl) ?_
  refine J_callV (d' := 3) (as := [vI (sV w (i + 1)), vI (sV w (i + 2))]) (st := [vI r1]) (o := 68) 462 rfl ok_X12_lies im_X12_lies se_X12_lies ml_L_54 isC_12 ob_68 (Ob.lt ob_68) rfl (by decide) ⟨Nat.le_refl _, Nat.le_refl _⟩ (Nat.le_of_ble_eq_true rfl) (D_L_law_5.at 11 rfl) (sr := fun z => [vI z, vI r1]) (fun _ => rfl) T1 (fun r2 h2 T2 b2 => ?_)
  obtain ⟨e2, I2⟩ := T2
  subst e2
  refine J_icmp_eq 465 rfl 1196 rz rz (D_L_law_5.at 12 rfl) (by decide) (fun _ => ?_) (fun c => absurd rfl c)
  exact T _ I2
theorem law_at_9 (I : Inv c h) (hc : c ≤ 512) (hi : 0 ≤ i ∧ i + 6 ≤ sL w) (T : ∀ h1, Inv (c + 1) h1 → JG w true m_L_law 100 NT NT 1196 [(3, vI i), (2, vR 68), (1, vR 0), (0, vR 2000)] [] h1 K) : JG w true m_L_law 100 NT NT 467 [(3, vI i), (2, vR 68), (1, vR 0), (0, vR 2000)] [] h K := by
  refine J_aload_n 468 rfl 1 2 rfl ⟨by decide, by decide⟩ (D_L_law_5.at 15 rfl) ?_
  refine J_aload_n 469 rfl 0 3 rfl ⟨by decide, by decide⟩ (D_L_law_5.at 16 rfl) ?_
  refine J_iload_n 470 rfl 3 0 rfl (D_L_law_5.at 17 rfl) ?_
  refine J_iconst 471 rfl (D_L_law_5.at 18 rfl) ?_
  refine J_iadd 472 rfl (D_L_law_5.at 19 rfl) ?_
  refine J_sld 473 rfl ⟨by omega, by omega⟩ (D_L_law_5.at 20 rfl) ?_
  refine J_aload_n 474 rfl 0 3 rfl ⟨by decide, by decide⟩ (D_L_law_5.at 21 rfl) ?_
  refine J_iload_n 475 rfl 3 0 rfl (D_L_law_5.at 22 rfl) ?_
  refine J_iconst 476 rfl (D_L_law_5.at 23 rfl) ?_
  refine J_iadd 477 rfl (D_L_law_5.at 24 rfl) ?_
  refine J_sld 478 rfl ⟨by omega, by omega⟩ (D_L_law_5.at 25 rfl) ?_
  refine J_callV (d' := 3) (as := [vI (sV w (i + 1)), vI (sV w (i + 2))]) (st := []) (o := 0) 481 rfl ok_X11_share im_X11_share se_X11_share ml_L_55 isC_11 ob_0 (Ob.lt ob_0) rfl (by decide) ⟨Nat.le_refl _, Nat.le_refl _⟩ (Nat.le_of_ble_eq_true rfl) (D_L_law_5.at 26 rfl) (sr := fun z => [vI z]) (fun _ => rfl) (q_share I sV_in sV_in) (fun r1 h1 T1 b1 => ?_)
  obtain ⟨rz, T1⟩ := T1
  refine J_aload_n 482 rfl 2 1 rfl ⟨by decide, by decide⟩ (D_L_law_5.at 27 rfl) ?_
  refine J_aload_n 483 rfl 0 3 rfl ⟨by decide, by decide⟩ (D_L_law_5.at 28 rfl) ?_
  refine J_iload_n 484 rfl 3 0 rfl (D_L_law_5.at 29 rfl) ?_
  refine J_iconst 485 rfl (D_L_law_5.at 30 rfl) ?_
  refine J_iadd 486 rfl (D_L_law_5.at 31 rfl) ?_
  refine J_sld 487 rfl ⟨by omega, by omega⟩ (D_L_law_5.at 32 rfl) ?_
  refine J_aload_n 488 rfl 0 3 rfl ⟨by decide, by decide⟩ (D_L_law_5.at 33 rfl) ?_
  refine J_iload_n 489 rfl 3 0 rfl (D_L_law_5.at 34 rfl) ?_
  refine J_iconst 490 rfl (D_L_law_5.at 35 rfl) ?_
  refine J_iadd 491 rfl (D_L_law_5.at 36 rfl) ?_
  refine J_sld 492 rfl ⟨by omega, by omega⟩ (D_L_law_5.at 37 rfl) ?_
  refine J_callV (d' := 3) (as := [vI (sV w (i + 1)), vI (sV w (i + 2))]) (st := [vI r1]) (o := 68) 495 rfl ok_X12_share im_X12_share se_X12_share ml_L_58 isC_12 ob_68 (Ob.lt ob_68) rfl (by decide) ⟨Nat.le_refl _, Nat.le_refl _⟩ (Nat.le_of_ble_eq_true rfl) (D_L_law_5.at 38 rfl) (sr := fun z => [vI z, vI r1]) (fun _ => rfl) T1 (fun r2 h2 T2 b2 => ?_)
  obtain ⟨e2, I2⟩ := T2
  subst e2
  refine J_icmp_eq 498 rfl 1196 rz rz (D_L_law_5.at 39 rfl) (by decide) (fun _ => ?_) (fun c => absurd rfl c)
  exact T _ I2
theorem law_at_10 (I : Inv c h) (hc : c ≤ 512) (hi : 0 ≤ i ∧ i + 6 ≤ sL w) (T : ∀ h1, Inv (c + 1) h1 → JG w true m_L_law 100 NT NT 1196 [(3, vI i), (2, vR 68), (1, vR 0), (0, vR 2000)] [] h1 K) : JG w true m_L_law 100 NT NT 500 [(3, vI i), (2, vR 68), (1, vR 0), (0, vR 2000)] [] h K := by
  refine J_aload_n 501 rfl 1 2 rfl ⟨by decide, by decide⟩ (D_L_law_5.at 42 rfl) ?_
  refine J_aload_n 502 rfl 0 3 rfl ⟨by decide, by decide⟩ (D_L_law_5.at 43 rfl) ?_
  refine J_iload_n 503 rfl 3 0 rfl (D_L_law_5.at 44 rfl) ?_
  refine J_iconst 504 rfl (D_L_law_5.at 45 rfl) ?_
  refine J_iadd 505 rfl (D_L_law_5.at 46 rfl) ?_
  refine J_sld 506 rfl ⟨by omega, by omega⟩ (D_L_law_5.at 47 rfl) ?_
  refine J_aload_n 507 rfl 0 3 rfl ⟨by decide, by decide⟩ (D_L_law_6.at 0 rfl) ?_
  refine J_iload_n 508 rfl 3 0 rfl (D_L_law_6.at 1 rfl) ?_
  refine J_iconst 509 rfl (D_L_law_6.at 2 rfl) ?_
  refine J_iadd 510 rfl (D_L_law_6.at 3 rfl) ?_
  refine J_sld 511 rfl ⟨by omega, by omega⟩ (D_L_law_6.at 4 rfl) ?_
  refine J_callV (d' := 3) (as := [vI (sV w (i + 1)), vI (sV w (i + 2))]) (st := []) (o := 0) 514 rfl ok_X11_tint im_X11_tint se_X11_tint ml_L_59 isC_11 ob_0 (Ob.lt ob_0) rfl (by decide) ⟨Nat.le_refl _, Nat.le_refl _⟩ (Nat.le_of_ble_eq_true rfl) (D_L_law_6.at 5 rfl) (sr := fun z => [vI z]) (fun _ => rfl) (q_tint I sV_in sV_in) (fun r1 h1 T1 b1 => ?_)
  obtain ⟨rz, T1⟩ := T1
  refine J_aload_n 515 rfl 2 1 rfl ⟨by decide, by decide⟩ (D_L_law_6.at 6 rfl) ?_
  refine J_aload_n 516 rfl 0 3 rfl ⟨by decide, by decide⟩ (D_L_law_6.at 7 rfl) ?_
  refine J_iload_n 517 rfl 3 0 rfl (D_L_law_6.at 8 rfl) ?_
  refine J_iconst 518 rfl (D_L_law_6.at 9 rfl) ?_
  refine J_iadd 519 rfl (D_L_law_6.at 10 rfl) ?_
  refine J_sld 520 rfl ⟨by omega, by omega⟩ (D_L_law_6.at 11 rfl) ?_
  refine J_aload_n 521 rfl 0 3 rfl ⟨by decide, by decide⟩ (D_L_law_6.at 12 rfl) ?_
  refine J_iload_n 522 rfl 3 0 rfl (D_L_law_6.at 13 rfl) ?_
  refine J_iconst 523 rfl (D_L_law_6.at 14 rfl) ?_
  refine J_iadd 524 rfl (D_L_law_6.at 15 rfl) ?_
  refine J_sld 525 rfl ⟨by omega, by omega⟩ (D_L_law_6.at 16 rfl) ?_
  refine J_callV (d' := 3) (as := [vI (sV w (i + 1)), vI (sV w (i + 2))]) (st := [vI r1]) (o := 68) 528 rfl ok_X12_tint im_X12_tint se_X12_tint ml_L_62 isC_12 ob_68 (Ob.lt ob_68) rfl (by decide) ⟨Nat.le_refl _, Nat.le_refl _⟩ (Nat.le_of_ble_eq_true rfl) (D_L_law_6.at 17 rfl) (sr := fun z => [vI z, vI r1]) (fun _ => rfl) T1 (fun r2 h2 T2 b2 => ?_)
  obtain ⟨e2, I2⟩ := T2
  subst e2
  refine J_icmp_eq 531 rfl 1196 rz rz (D_L_law_6.at 18 rfl) (by decide) (fun _ => ?_) (fun c => absurd rfl c)
  exact T _ I2
theorem law_at_11 (I : Inv c h) (hc : c ≤ 512) (hi : 0 ≤ i ∧ i + 6 ≤ sL w) (T : ∀ h1, Inv (c + 1) h1 → JG w true m_L_law 100 NT NT 1196 [(3, vI i), (2, vR 68), (1, vR 0), (0, vR 2000)] [] h1 K) : JG w true m_L_law 100 NT NT 533 [(3, vI i), (2, vR 68), (1, vR 0), (0, vR 2000)] [] h K := by
  refine J_aload_n 534 rfl 1 2 rfl ⟨by decide, by decide⟩ (D_L_law_6.at 21 rfl) ?_
  refine J_aload_n 535 rfl 0 3 rfl ⟨by decide, by decide⟩ (D_L_law_6.at 22 rfl) ?_
  refine J_iload_n 536 rfl 3 0 rfl (D_L_law_6.at 23 rfl) ?_
  refine J_iconst 537 rfl (D_L_law_6.at 24 rfl) ?_
  refine J_iadd 538 rfl (D_L_law_6.at 25 rfl) ?_
  refine J_sld 539 rfl ⟨by omega, by omega⟩ (D_L_law_6.at 26 rfl) ?_
  refine J_aload_n 540 rfl 0 3 rfl ⟨by decide, by decide⟩ (D_L_law_6.at 27 rfl) ?_
  refine J_iload_n 541 rfl 3 0 rfl (D_L_law_6.at 28 rfl) ?_
  refine J_iconst 542 rfl (D_L_law_6.at 29 rfl) ?_
  refine J_iadd 543 rfl (D_L_law_6.at 30 rfl) ?_
  refine J_sld 544 rfl ⟨by omega, by omega⟩ (D_L_law_6.at 31 rfl) ?_
  refine J_callV (d' := 2) (as := [vI (sV w (i + 1)), vI (sV w (i + 2))]) (st := []) (o := 0) 547 rfl ok_X11_flow im_X11_flow se_X11_flow ml_L_63 isC_11 ob_0 (Ob.lt ob_0) rfl (by decide) ⟨Nat.le_refl _, Nat.le_refl _⟩ (Nat.le_of_ble_eq_true rfl) (D_L_law_6.at 32 rfl) (sr := fun z => [vI z]) (fun _ => rfl) (q_flow I sV_in sV_in) (fun r1 h1 T1 b1 => ?_)
  obtain ⟨rz, T1⟩ := T1
  refine J_aload_n 548 rfl 2 1 rfl ⟨by decide, by decide⟩ (D_L_law_6.at 33 rfl) ?_
  refine J_aload_n 549 rfl 0 3 rfl ⟨by decide, by decide⟩ (D_L_law_6.at 34 rfl) ?_
  refine J_iload_n 550 rfl 3 0 rfl (D_L_law_6.at 35 rfl) ?_
  refine J_iconst 551 rfl (D_L_law_6.at 36 rfl) ?_
  refine J_iadd 552 rfl (D_L_law_6.at 37 rfl) ?_
  refine J_sld 553 rfl ⟨by omega, by omega⟩ (D_L_law_6.at 38 rfl) ?_
  refine J_aload_n 554 rfl 0 3 rfl ⟨by decide, by decide⟩ (D_L_law_6.at 39 rfl) ?_
  refine J_iload_n 555 rfl 3 0 rfl (D_L_law_6.at 40 rfl) ?_
  refine J_iconst 556 rfl (D_L_law_6.at 41 rfl) ?_
  refine J_iadd 557 rfl (D_L_law_6.at 42 rfl) ?_
  refine J_sld 558 rfl ⟨by omega, by omega⟩ (D_L_law_6.at 43 rfl) ?_
  refine J_callV (d' := 3) (as := [vI (sV w (i + 1)), vI (sV w (i + 2))]) (st := [vI r1]) (o := 68) 561 rfl ok_X12_flow im_X12_flow se_X12_flow ml_L_66 isC_12 ob_68 (Ob.lt ob_68) rfl (by decide) ⟨Nat.le_refl _, Nat.le_refl _⟩ (Nat.le_of_ble_eq_true rfl) (D_L_law_6.at 44 rfl) (sr := fun z => [vI z, vI r1]) (fun _ => rfl) T1 (fun r2 h2 T2 b2 => ?_)
  obtain ⟨e2, I2⟩ := T2
  subst e2
  refine J_icmp_eq 564 rfl 1196 rz rz (D_L_law_6.at 45 rfl) (by decide) (fun _ => ?_) (fun c => absurd rfl c)
  exact T _ I2
theorem law_at_12 (I : Inv c h) (hc : c ≤ 512) (hi : 0 ≤ i ∧ i + 6 ≤ sL w) (T : ∀ h1, Inv (c + 1) h1 → JG w true m_L_law 100 NT NT 1196 [(3, vI i), (2, vR 68), (1, vR 0), (0, vR 2000)] [] h1 K) : JG w true m_L_law 100 NT NT 566 [(3, vI i), (2, vR 68), (1, vR 0), (0, vR 2000)] [] h K := by
  refine J_aload_n 567 rfl 1 2 rfl ⟨by decide, by decide⟩ (D_L_law_7.at 0 rfl) ?_
  refine J_aload_n 568 rfl 0 3 rfl ⟨by decide, by decide⟩ (D_L_law_7.at 1 rfl) ?_
  refine J_iload_n 569 rfl 3 0 rfl (D_L_law_7.at 2 rfl) ?_
  refine J_iconst 570 rfl (D_L_law_7.at 3 rfl) ?_
  refine J_iadd 571 rfl (D_L_law_7.at 4 rfl) ?_
  refine J_sld 572 rfl ⟨by omega, by omega⟩ (D_L_law_7.at 5 rfl) ?_
  refine J_aload_n 573 rfl 0 3 rfl ⟨by decide, by decide⟩ (D_L_law_7.at 6 rfl) ?_
  refine J_iload_n 574 rfl 3 0 rfl (D_L_law_7.at 7 rfl) ?_
  refine J_iconst 575 rfl (D_L_law_7.at 8 rfl) ?_
  refine J_iadd 576 rfl (D_L_law_7.at 9 rfl) ?_
  refine J_sld 577 rfl ⟨by omega, by omega⟩ (D_L_law_7.at 10 rfl) ?_
  refine J_callV (d' := 5) (as := [vI (sV w (i + 1)), vI (sV w (i + 2))]) (st := []) (o := 0) 580 rfl ok_X11_cuts im_X11_cuts se_X11_cuts ml_L_67 isC_11 ob_0 (Ob.lt ob_0) rfl (by decide) ⟨Nat.le_refl _, Nat.le_refl _⟩ (Nat.le_of_ble_eq_true rfl) (D_L_law_7.at 11 rfl) (sr := fun z => [vI z]) (fun _ => rfl) (q_cuts I sV_in sV_in) (fun r1 h1 T1 b1 => ?_)
  obtain ⟨rz, T1⟩ := T1
  refine J_aload_n 581 rfl 2 1 rfl ⟨by decide, by decide⟩ (D_L_law_7.at 12 rfl) ?_
  refine J_aload_n 582 rfl 0 3 rfl ⟨by decide, by decide⟩ (D_L_law_7.at 13 rfl) ?_
  refine J_iload_n 583 rfl 3 0 rfl (D_L_law_7.at 14 rfl) ?_
  refine J_iconst 584 rfl (D_L_law_7.at 15 rfl) ?_
  refine J_iadd 585 rfl (D_L_law_7.at 16 rfl) ?_
  refine J_sld 586 rfl ⟨by omega, by omega⟩ (D_L_law_7.at 17 rfl) ?_
  refine J_aload_n 587 rfl 0 3 rfl ⟨by decide, by decide⟩ (D_L_law_7.at 18 rfl) ?_
  refine J_iload_n 588 rfl 3 0 rfl (D_L_law_7.at 19 rfl) ?_
  refine J_iconst 589 rfl (D_L_law_7.at 20 rfl) ?_
  refine J_iadd 590 rfl (D_L_law_7.at 21 rfl) ?_
  refine J_sld 591 rfl ⟨by omega, by omega⟩ (D_L_law_7.at 22 rfl) ?_
  refine J_callV (d' := 7) (as := [vI (sV w (i + 1)), vI (sV w (i + 2))]) (st := [vI r1]) (o := 68) 594 rfl ok_X12_cuts im_X12_cuts se_X12_cuts ml_L_70 isC_12 ob_68 (Ob.lt ob_68) rfl (by decide) ⟨Nat.le_refl _, Nat.le_refl _⟩ (Nat.le_of_ble_eq_true rfl) (D_L_law_7.at 23 rfl) (sr := fun z => [vI z, vI r1]) (fun _ => rfl) T1 (fun r2 h2 T2 b2 => ?_)
  obtain ⟨e2, I2⟩ := T2
  subst e2
  refine J_icmp_eq 597 rfl 1196 rz rz (D_L_law_7.at 24 rfl) (by decide) (fun _ => ?_) (fun c => absurd rfl c)
  exact T _ I2
theorem law_at_13 (I : Inv c h) (hc : c ≤ 512) (hi : 0 ≤ i ∧ i + 6 ≤ sL w) (T : ∀ h1, Inv (c + 1) h1 → JG w true m_L_law 100 NT NT 1196 [(3, vI i), (2, vR 68), (1, vR 0), (0, vR 2000)] [] h1 K) : JG w true m_L_law 100 NT NT 599 [(3, vI i), (2, vR 68), (1, vR 0), (0, vR 2000)] [] h K := by
  refine J_aload_n 600 rfl 1 2 rfl ⟨by decide, by decide⟩ (D_L_law_7.at 27 rfl) ?_
  refine J_aload_n 601 rfl 0 3 rfl ⟨by decide, by decide⟩ (D_L_law_7.at 28 rfl) ?_
  refine J_iload_n 602 rfl 3 0 rfl (D_L_law_7.at 29 rfl) ?_
  refine J_iconst 603 rfl (D_L_law_7.at 30 rfl) ?_
  refine J_iadd 604 rfl (D_L_law_7.at 31 rfl) ?_
  refine J_sld 605 rfl ⟨by omega, by omega⟩ (D_L_law_7.at 32 rfl) ?_
  refine J_aload_n 606 rfl 0 3 rfl ⟨by decide, by decide⟩ (D_L_law_7.at 33 rfl) ?_
  refine J_iload_n 607 rfl 3 0 rfl (D_L_law_7.at 34 rfl) ?_
  refine J_iconst 608 rfl (D_L_law_7.at 35 rfl) ?_
  refine J_iadd 609 rfl (D_L_law_7.at 36 rfl) ?_
  refine J_sld 610 rfl ⟨by omega, by omega⟩ (D_L_law_7.at 37 rfl) ?_
  refine J_aload_n 611 rfl 0 3 rfl ⟨by decide, by decide⟩ (D_L_law_7.at 38 rfl) ?_
  refine J_iload_n 612 rfl 3 0 rfl (D_L_law_7.at 39 rfl) ?_
  refine J_iconst 613 rfl (D_L_law_7.at 40 rfl) ?_
  refine J_iadd 614 rfl (D_L_law_7.at 41 rfl) ?_
  refine J_sld 615 rfl ⟨by omega, by omega⟩ (D_L_law_7.at 42 rfl) ?_
  refine J_callV (d' := 7) (as := [vI (sV w (i + 1)), vI (sV w (i + 2)), vI (sV w (i + 3))]) (st := []) (o := 0) 618 rfl ok_X11_settles im_X11_settles se_X11_settles ml_L_71 isC_11 ob_0 (Ob.lt ob_0) rfl (by decide) ⟨Nat.le_refl _, Nat.le_refl _⟩ (Nat.le_of_ble_eq_true rfl) (D_L_law_7.at 43 rfl) (sr := fun z => [vI z]) (fun _ => rfl) (q_settles I sV_in sV_in sV_in) (fun r1 h1 T1 b1 => ?_)
  obtain ⟨rz, T1⟩ := T1
  refine J_aload_n 619 rfl 2 1 rfl ⟨by decide, by decide⟩ (D_L_law_7.at 44 rfl) ?_
  refine J_aload_n 620 rfl 0 3 rfl ⟨by decide, by decide⟩ (D_L_law_7.at 45 rfl) ?_
  refine J_iload_n 621 rfl 3 0 rfl (D_L_law_7.at 46 rfl) ?_
  refine J_iconst 622 rfl (D_L_law_7.at 47 rfl) ?_
  refine J_iadd 623 rfl (D_L_law_8.at 0 rfl) ?_
  refine J_sld 624 rfl ⟨by omega, by omega⟩ (D_L_law_8.at 1 rfl) ?_
  refine J_aload_n 625 rfl 0 3 rfl ⟨by decide, by decide⟩ (D_L_law_8.at 2 rfl) ?_
  refine J_iload_n 626 rfl 3 0 rfl (D_L_law_8.at 3 rfl) ?_
  refine J_iconst 627 rfl (D_L_law_8.at 4 rfl) ?_
  refine J_iadd 628 rfl (D_L_law_8.at 5 rfl) ?_
  refine J_sld 629 rfl ⟨by omega, by omega⟩ (D_L_law_8.at 6 rfl) ?_
  refine J_aload_n 630 rfl 0 3 rfl ⟨by decide, by decide⟩ (D_L_law_8.at 7 rfl) ?_
  refine J_iload_n 631 rfl 3 0 rfl (D_L_law_8.at 8 rfl) ?_
  refine J_iconst 632 rfl (D_L_law_8.at 9 rfl) ?_
  refine J_iadd 633 rfl (D_L_law_8.at 10 rfl) ?_
  refine J_sld 634 rfl ⟨by omega, by omega⟩ (D_L_law_8.at 11 rfl) ?_
  refine J_callV (d' := 7) (as := [vI (sV w (i + 1)), vI (sV w (i + 2)), vI (sV w (i + 3))]) (st := [vI r1]) (o := 68) 637 rfl ok_X12_settles im_X12_settles se_X12_settles ml_L_74 isC_12 ob_68 (Ob.lt ob_68) rfl (by decide) ⟨Nat.le_refl _, Nat.le_refl _⟩ (Nat.le_of_ble_eq_true rfl) (D_L_law_8.at 12 rfl) (sr := fun z => [vI z, vI r1]) (fun _ => rfl) T1 (fun r2 h2 T2 b2 => ?_)
  obtain ⟨e2, I2⟩ := T2
  subst e2
  refine J_icmp_eq 640 rfl 1196 rz rz (D_L_law_8.at 13 rfl) (by decide) (fun _ => ?_) (fun c => absurd rfl c)
  exact T _ I2
theorem law_at_14 (I : Inv c h) (hc : c ≤ 512) (hi : 0 ≤ i ∧ i + 6 ≤ sL w) (T : ∀ h1, Inv (c + 1) h1 → JG w true m_L_law 100 NT NT 1196 [(3, vI i), (2, vR 68), (1, vR 0), (0, vR 2000)] [] h1 K) : JG w true m_L_law 100 NT NT 642 [(3, vI i), (2, vR 68), (1, vR 0), (0, vR 2000)] [] h K := by
  refine J_aload_n 643 rfl 1 2 rfl ⟨by decide, by decide⟩ (D_L_law_8.at 16 rfl) ?_
  refine J_aload_n 644 rfl 0 3 rfl ⟨by decide, by decide⟩ (D_L_law_8.at 17 rfl) ?_
  refine J_iload_n 645 rfl 3 0 rfl (D_L_law_8.at 18 rfl) ?_
  refine J_iconst 646 rfl (D_L_law_8.at 19 rfl) ?_
  refine J_iadd 647 rfl (D_L_law_8.at 20 rfl) ?_
  refine J_sld 648 rfl ⟨by omega, by omega⟩ (D_L_law_8.at 21 rfl) ?_
  refine J_aload_n 649 rfl 0 3 rfl ⟨by decide, by decide⟩ (D_L_law_8.at 22 rfl) ?_
  refine J_iload_n 650 rfl 3 0 rfl (D_L_law_8.at 23 rfl) ?_
  refine J_iconst 651 rfl (D_L_law_8.at 24 rfl) ?_
  refine J_iadd 652 rfl (D_L_law_8.at 25 rfl) ?_
  refine J_sld 653 rfl ⟨by omega, by omega⟩ (D_L_law_8.at 26 rfl) ?_
  refine J_aload_n 654 rfl 0 3 rfl ⟨by decide, by decide⟩ (D_L_law_8.at 27 rfl) ?_
  refine J_iload_n 655 rfl 3 0 rfl (D_L_law_8.at 28 rfl) ?_
  refine J_iconst 656 rfl (D_L_law_8.at 29 rfl) ?_
  refine J_iadd 657 rfl (D_L_law_8.at 30 rfl) ?_
  refine J_sld 658 rfl ⟨by omega, by omega⟩ (D_L_law_8.at 31 rfl) ?_
  refine J_callV (d' := 7) (as := [vI (sV w (i + 1)), vI (sV w (i + 2)), vI (sV w (i + 3))]) (st := []) (o := 0) 661 rfl ok_X11_carries im_X11_carries se_X11_carries ml_L_75 isC_11 ob_0 (Ob.lt ob_0) rfl (by decide) ⟨Nat.le_refl _, Nat.le_refl _⟩ (Nat.le_of_ble_eq_true rfl) (D_L_law_8.at 32 rfl) (sr := fun z => [vI z]) (fun _ => rfl) (q_carries I sV_in sV_in sV_in) (fun r1 h1 T1 b1 => ?_)
  obtain ⟨rz, T1⟩ := T1
  refine J_aload_n 662 rfl 2 1 rfl ⟨by decide, by decide⟩ (D_L_law_8.at 33 rfl) ?_
  refine J_aload_n 663 rfl 0 3 rfl ⟨by decide, by decide⟩ (D_L_law_8.at 34 rfl) ?_
  refine J_iload_n 664 rfl 3 0 rfl (D_L_law_8.at 35 rfl) ?_
  refine J_iconst 665 rfl (D_L_law_8.at 36 rfl) ?_
  refine J_iadd 666 rfl (D_L_law_8.at 37 rfl) ?_
  refine J_sld 667 rfl ⟨by omega, by omega⟩ (D_L_law_8.at 38 rfl) ?_
  refine J_aload_n 668 rfl 0 3 rfl ⟨by decide, by decide⟩ (D_L_law_8.at 39 rfl) ?_
  refine J_iload_n 669 rfl 3 0 rfl (D_L_law_8.at 40 rfl) ?_
  refine J_iconst 670 rfl (D_L_law_8.at 41 rfl) ?_
  refine J_iadd 671 rfl (D_L_law_8.at 42 rfl) ?_
  refine J_sld 672 rfl ⟨by omega, by omega⟩ (D_L_law_8.at 43 rfl) ?_
  refine J_aload_n 673 rfl 0 3 rfl ⟨by decide, by decide⟩ (D_L_law_8.at 44 rfl) ?_
  refine J_iload_n 674 rfl 3 0 rfl (D_L_law_8.at 45 rfl) ?_
  refine J_iconst 675 rfl (D_L_law_8.at 46 rfl) ?_
  refine J_iadd 676 rfl (D_L_law_8.at 47 rfl) ?_
  refine J_sld 677 rfl ⟨by omega, by omega⟩ (D_L_law_9.at 0 rfl) ?_
  refine J_callV (d' := 7) (as := [vI (sV w (i + 1)), vI (sV w (i + 2)), vI (sV w (i + 3))]) (st := [vI r1]) (o := 68) 680 rfl ok_X12_carries im_X12_carries se_X12_carries ml_L_78 isC_12 ob_68 (Ob.lt ob_68) rfl (by decide) ⟨Nat.le_refl _, Nat.le_refl _⟩ (Nat.le_of_ble_eq_true rfl) (D_L_law_9.at 1 rfl) (sr := fun z => [vI z, vI r1]) (fun _ => rfl) T1 (fun r2 h2 T2 b2 => ?_)
  obtain ⟨e2, I2⟩ := T2
  subst e2
  refine J_icmp_eq 683 rfl 1196 rz rz (D_L_law_9.at 2 rfl) (by decide) (fun _ => ?_) (fun c => absurd rfl c)
  exact T _ I2
theorem law_at_15 (I : Inv c h) (hc : c ≤ 512) (hi : 0 ≤ i ∧ i + 6 ≤ sL w) (T : ∀ h1, Inv (c + 1) h1 → JG w true m_L_law 100 NT NT 1196 [(3, vI i), (2, vR 68), (1, vR 0), (0, vR 2000)] [] h1 K) : JG w true m_L_law 100 NT NT 685 [(3, vI i), (2, vR 68), (1, vR 0), (0, vR 2000)] [] h K := by
  refine J_aload_n 686 rfl 1 2 rfl ⟨by decide, by decide⟩ (D_L_law_9.at 5 rfl) ?_
  refine J_aload_n 687 rfl 0 3 rfl ⟨by decide, by decide⟩ (D_L_law_9.at 6 rfl) ?_
  refine J_iload_n 688 rfl 3 0 rfl (D_L_law_9.at 7 rfl) ?_
  refine J_iconst 689 rfl (D_L_law_9.at 8 rfl) ?_
  refine J_iadd 690 rfl (D_L_law_9.at 9 rfl) ?_
  refine J_sld 691 rfl ⟨by omega, by omega⟩ (D_L_law_9.at 10 rfl) ?_
  refine J_aload_n 692 rfl 0 3 rfl ⟨by decide, by decide⟩ (D_L_law_9.at 11 rfl) ?_
  refine J_iload_n 693 rfl 3 0 rfl (D_L_law_9.at 12 rfl) ?_
  refine J_iconst 694 rfl (D_L_law_9.at 13 rfl) ?_
  refine J_iadd 695 rfl (D_L_law_9.at 14 rfl) ?_
  refine J_sld 696 rfl ⟨by omega, by omega⟩ (D_L_law_9.at 15 rfl) ?_
  refine J_callV (d' := 7) (as := [vI (sV w (i + 1)), vI (sV w (i + 2))]) (st := []) (o := 0) 699 rfl ok_X11_would im_X11_would se_X11_would ml_L_79 isC_11 ob_0 (Ob.lt ob_0) rfl (by decide) ⟨Nat.le_refl _, Nat.le_refl _⟩ (Nat.le_of_ble_eq_true rfl) (D_L_law_9.at 16 rfl) (sr := fun z => [vI z]) (fun _ => rfl) (q_would I sV_in sV_in) (fun r1 h1 T1 b1 => ?_)
  obtain ⟨rz, T1⟩ := T1
  refine J_aload_n 700 rfl 2 1 rfl ⟨by decide, by decide⟩ (D_L_law_9.at 17 rfl) ?_
  refine J_aload_n 701 rfl 0 3 rfl ⟨by decide, by decide⟩ (D_L_law_9.at 18 rfl) ?_
  refine J_iload_n 702 rfl 3 0 rfl (D_L_law_9.at 19 rfl) ?_
  refine J_iconst 703 rfl (D_L_law_9.at 20 rfl) ?_
  refine J_iadd 704 rfl (D_L_law_9.at 21 rfl) ?_
  refine J_sld 705 rfl ⟨by omega, by omega⟩ (D_L_law_9.at 22 rfl) ?_
  refine J_aload_n 706 rfl 0 3 rfl ⟨by decide, by decide⟩ (D_L_law_9.at 23 rfl) ?_
  refine J_iload_n 707 rfl 3 0 rfl (D_L_law_9.at 24 rfl) ?_
  refine J_iconst 708 rfl (D_L_law_9.at 25 rfl) ?_
  refine J_iadd 709 rfl (D_L_law_9.at 26 rfl) ?_
  refine J_sld 710 rfl ⟨by omega, by omega⟩ (D_L_law_9.at 27 rfl) ?_
  refine J_callV (d' := 7) (as := [vI (sV w (i + 1)), vI (sV w (i + 2))]) (st := [vI r1]) (o := 68) 713 rfl ok_X12_would im_X12_would se_X12_would ml_L_82 isC_12 ob_68 (Ob.lt ob_68) rfl (by decide) ⟨Nat.le_refl _, Nat.le_refl _⟩ (Nat.le_of_ble_eq_true rfl) (D_L_law_9.at 28 rfl) (sr := fun z => [vI z, vI r1]) (fun _ => rfl) T1 (fun r2 h2 T2 b2 => ?_)
  obtain ⟨e2, I2⟩ := T2
  subst e2
  refine J_icmp_eq 716 rfl 1196 rz rz (D_L_law_9.at 29 rfl) (by decide) (fun _ => ?_) (fun c => absurd rfl c)
  exact T _ I2
theorem law_at_16 (I : Inv c h) (hc : c ≤ 512) (hi : 0 ≤ i ∧ i + 6 ≤ sL w) (T : ∀ h1, Inv (c + 1) h1 → JG w true m_L_law 100 NT NT 1196 [(3, vI i), (2, vR 68), (1, vR 0), (0, vR 2000)] [] h1 K) : JG w true m_L_law 100 NT NT 718 [(3, vI i), (2, vR 68), (1, vR 0), (0, vR 2000)] [] h K := by
  refine J_aload_n 719 rfl 1 2 rfl ⟨by decide, by decide⟩ (D_L_law_9.at 32 rfl) ?_
  refine J_aload_n 720 rfl 0 3 rfl ⟨by decide, by decide⟩ (D_L_law_9.at 33 rfl) ?_
  refine J_iload_n 721 rfl 3 0 rfl (D_L_law_9.at 34 rfl) ?_
  refine J_iconst 722 rfl (D_L_law_9.at 35 rfl) ?_
  refine J_iadd 723 rfl (D_L_law_9.at 36 rfl) ?_
  refine J_sld 724 rfl ⟨by omega, by omega⟩ (D_L_law_9.at 37 rfl) ?_
  refine J_callV (d' := 7) (as := [vI (sV w (i + 1))]) (st := []) (o := 0) 727 rfl ok_X11_flood im_X11_flood se_X11_flood ml_L_83 isC_11 ob_0 (Ob.lt ob_0) rfl (by decide) ⟨Nat.le_refl _, Nat.le_refl _⟩ (Nat.le_of_ble_eq_true rfl) (D_L_law_9.at 38 rfl) (sr := fun z => [vI z]) (fun _ => rfl) (q_flood I sV_in) (fun r1 h1 T1 b1 => ?_)
  obtain ⟨rz, T1⟩ := T1
  refine J_aload_n 728 rfl 2 1 rfl ⟨by decide, by decide⟩ (D_L_law_9.at 39 rfl) ?_
  refine J_aload_n 729 rfl 0 3 rfl ⟨by decide, by decide⟩ (D_L_law_9.at 40 rfl) ?_
  refine J_iload_n 730 rfl 3 0 rfl (D_L_law_9.at 41 rfl) ?_
  refine J_iconst 731 rfl (D_L_law_9.at 42 rfl) ?_
  refine J_iadd 732 rfl (D_L_law_9.at 43 rfl) ?_
  refine J_sld 733 rfl ⟨by omega, by omega⟩ (D_L_law_9.at 44 rfl) ?_
  refine J_callV (d' := 8) (as := [vI (sV w (i + 1))]) (st := [vI r1]) (o := 68) 736 rfl ok_X12_flood im_X12_flood se_X12_flood ml_L_86 isC_12 ob_68 (Ob.lt ob_68) rfl (by decide) ⟨Nat.le_refl _, Nat.le_refl _⟩ (Nat.le_of_ble_eq_true rfl) (D_L_law_9.at 45 rfl) (sr := fun z => [vI z, vI r1]) (fun _ => rfl) T1 (fun r2 h2 T2 b2 => ?_)
  obtain ⟨e2, I2⟩ := T2
  subst e2
  refine J_icmp_eq 739 rfl 1196 rz rz (D_L_law_9.at 46 rfl) (by decide) (fun _ => ?_) (fun c => absurd rfl c)
  exact T _ I2
theorem law_at_17 (I : Inv c h) (hc : c ≤ 512) (hi : 0 ≤ i ∧ i + 6 ≤ sL w) (T : ∀ h1, Inv (c + 1) h1 → JG w true m_L_law 100 NT NT 1196 [(3, vI i), (2, vR 68), (1, vR 0), (0, vR 2000)] [] h1 K) : JG w true m_L_law 100 NT NT 741 [(3, vI i), (2, vR 68), (1, vR 0), (0, vR 2000)] [] h K := by
  refine J_aload_n 742 rfl 1 2 rfl ⟨by decide, by decide⟩ (D_L_law_10.at 1 rfl) ?_
  refine J_aload_n 743 rfl 0 3 rfl ⟨by decide, by decide⟩ (D_L_law_10.at 2 rfl) ?_
  refine J_iload_n 744 rfl 3 0 rfl (D_L_law_10.at 3 rfl) ?_
  refine J_iconst 745 rfl (D_L_law_10.at 4 rfl) ?_
  refine J_iadd 746 rfl (D_L_law_10.at 5 rfl) ?_
  refine J_sld 747 rfl ⟨by omega, by omega⟩ (D_L_law_10.at 6 rfl) ?_
  refine J_callV (d' := 7) (as := [vI (sV w (i + 1))]) (st := []) (o := 0) 750 rfl ok_X11_years im_X11_years se_X11_years ml_L_87 isC_11 ob_0 (Ob.lt ob_0) rfl (by decide) ⟨Nat.le_refl _, Nat.le_refl _⟩ (Nat.le_of_ble_eq_true rfl) (D_L_law_10.at 7 rfl) (sr := fun z => [vI z]) (fun _ => rfl) (q_years I sV_in) (fun r1 h1 T1 b1 => ?_)
  obtain ⟨rz, T1⟩ := T1
  refine J_aload_n 751 rfl 2 1 rfl ⟨by decide, by decide⟩ (D_L_law_10.at 8 rfl) ?_
  refine J_aload_n 752 rfl 0 3 rfl ⟨by decide, by decide⟩ (D_L_law_10.at 9 rfl) ?_
  refine J_iload_n 753 rfl 3 0 rfl (D_L_law_10.at 10 rfl) ?_
  refine J_iconst 754 rfl (D_L_law_10.at 11 rfl) ?_
  refine J_iadd 755 rfl (D_L_law_10.at 12 rfl) ?_
  refine J_sld 756 rfl ⟨by omega, by omega⟩ (D_L_law_10.at 13 rfl) ?_
  refine J_callV (d' := 8) (as := [vI (sV w (i + 1))]) (st := [vI r1]) (o := 68) 759 rfl ok_X12_years im_X12_years se_X12_years ml_L_90 isC_12 ob_68 (Ob.lt ob_68) rfl (by decide) ⟨Nat.le_refl _, Nat.le_refl _⟩ (Nat.le_of_ble_eq_true rfl) (D_L_law_10.at 14 rfl) (sr := fun z => [vI z, vI r1]) (fun _ => rfl) T1 (fun r2 h2 T2 b2 => ?_)
  obtain ⟨e2, I2⟩ := T2
  subst e2
  refine J_icmp_eq 762 rfl 1196 rz rz (D_L_law_10.at 15 rfl) (by decide) (fun _ => ?_) (fun c => absurd rfl c)
  exact T _ I2
theorem law_at_18 (I : Inv c h) (hc : c ≤ 512) (hi : 0 ≤ i ∧ i + 6 ≤ sL w) (T : ∀ h1, Inv (c + 1) h1 → JG w true m_L_law 100 NT NT 1196 [(3, vI i), (2, vR 68), (1, vR 0), (0, vR 2000)] [] h1 K) : JG w true m_L_law 100 NT NT 764 [(3, vI i), (2, vR 68), (1, vR 0), (0, vR 2000)] [] h K := by
  refine J_aload_n 765 rfl 1 2 rfl ⟨by decide, by decide⟩ (D_L_law_10.at 18 rfl) ?_
  refine J_aload_n 766 rfl 0 3 rfl ⟨by decide, by decide⟩ (D_L_law_10.at 19 rfl) ?_
  refine J_iload_n 767 rfl 3 0 rfl (D_L_law_10.at 20 rfl) ?_
  refine J_iconst 768 rfl (D_L_law_10.at 21 rfl) ?_
  refine J_iadd 769 rfl (D_L_law_10.at 22 rfl) ?_
  refine J_sld 770 rfl ⟨by omega, by omega⟩ (D_L_law_10.at 23 rfl) ?_
  refine J_aload_n 771 rfl 0 3 rfl ⟨by decide, by decide⟩ (D_L_law_10.at 24 rfl) ?_
  refine J_iload_n 772 rfl 3 0 rfl (D_L_law_10.at 25 rfl) ?_
  refine J_iconst 773 rfl (D_L_law_10.at 26 rfl) ?_
  refine J_iadd 774 rfl (D_L_law_10.at 27 rfl) ?_
  refine J_sld 775 rfl ⟨by omega, by omega⟩ (D_L_law_10.at 28 rfl) ?_
  refine J_if_eq 778 rfl 782 sV_in (D_L_law_10.at 29 rfl) (by decide) (fun c1 => ?_) (fun c1 => ?_)
  · skip
    refine J_iconst 783 rfl (D_L_law_10.at 32 rfl) ?_
    refine J_callV (d' := 3) (as := [vI (sV w (i + 1)), vI 0]) (st := []) (o := 0) 786 rfl ok_X11_stone im_X11_stone se_X11_stone ml_L_91 isC_11 ob_0 (Ob.lt ob_0) rfl (by decide) ⟨Nat.le_refl _, Nat.le_refl _⟩ (Nat.le_of_ble_eq_true rfl) (D_L_law_10.at 33 rfl) (sr := fun z => [vI z]) (fun _ => rfl) (q_stone I sV_in (Or.inl rfl)) (fun r1 h1 T1 b1 => ?_)
    have rz : inR r1 := inR_b b1
    replace T1 := T1 b1
    refine J_aload_n 787 rfl 2 1 rfl ⟨by decide, by decide⟩ (D_L_law_10.at 34 rfl) ?_
    refine J_aload_n 788 rfl 0 3 rfl ⟨by decide, by decide⟩ (D_L_law_10.at 35 rfl) ?_
    refine J_iload_n 789 rfl 3 0 rfl (D_L_law_10.at 36 rfl) ?_
    refine J_iconst 790 rfl (D_L_law_10.at 37 rfl) ?_
    refine J_iadd 791 rfl (D_L_law_10.at 38 rfl) ?_
    refine J_sld 792 rfl ⟨by omega, by omega⟩ (D_L_law_10.at 39 rfl) ?_
    refine J_aload_n 793 rfl 0 3 rfl ⟨by decide, by decide⟩ (D_L_law_10.at 40 rfl) ?_
    refine J_iload_n 794 rfl 3 0 rfl (D_L_law_10.at 41 rfl) ?_
    refine J_iconst 795 rfl (D_L_law_10.at 42 rfl) ?_
    refine J_iadd 796 rfl (D_L_law_10.at 43 rfl) ?_
    refine J_sld 797 rfl ⟨by omega, by omega⟩ (D_L_law_10.at 44 rfl) ?_
    refine J_if_eq 800 rfl 804 sV_in (D_L_law_10.at 45 rfl) (by decide) (fun _ => ?_) (fun c2 => absurd c1 c2)
    refine J_iconst 805 rfl (D_L_law_11.at 0 rfl) ?_
    refine J_callV (d' := 3) (as := [vI (sV w (i + 1)), vI 0]) (st := [vI r1]) (o := 68) 808 rfl ok_X12_stone im_X12_stone se_X12_stone ml_L_95 isC_12 ob_68 (Ob.lt ob_68) rfl (by decide) ⟨Nat.le_refl _, Nat.le_refl _⟩ (Nat.le_of_ble_eq_true rfl) (D_L_law_11.at 1 rfl) (sr := fun z => [vI z, vI r1]) (fun _ => rfl) T1 (fun r2 h2 T2 b2 => ?_)
    obtain ⟨e2, I2⟩ := T2
    subst e2
    refine J_icmp_eq 811 rfl 1196 rz rz (D_L_law_11.at 2 rfl) (by decide) (fun _ => ?_) (fun c => absurd rfl c)
    exact T _ I2
  · skip
    refine J_iconst 779 rfl (D_L_law_10.at 30 rfl) ?_
    refine J_goto 783 (D_L_law_10.at 31 rfl) (by decide) ?_
    refine J_callV (d' := 3) (as := [vI (sV w (i + 1)), vI 1]) (st := []) (o := 0) 786 rfl ok_X11_stone im_X11_stone se_X11_stone ml_L_91 isC_11 ob_0 (Ob.lt ob_0) rfl (by decide) ⟨Nat.le_refl _, Nat.le_refl _⟩ (Nat.le_of_ble_eq_true rfl) (D_L_law_10.at 33 rfl) (sr := fun z => [vI z]) (fun _ => rfl) (q_stone I sV_in (Or.inr rfl)) (fun r1 h1 T1 b1 => ?_)
    have rz : inR r1 := inR_b b1
    replace T1 := T1 b1
    refine J_aload_n 787 rfl 2 1 rfl ⟨by decide, by decide⟩ (D_L_law_10.at 34 rfl) ?_
    refine J_aload_n 788 rfl 0 3 rfl ⟨by decide, by decide⟩ (D_L_law_10.at 35 rfl) ?_
    refine J_iload_n 789 rfl 3 0 rfl (D_L_law_10.at 36 rfl) ?_
    refine J_iconst 790 rfl (D_L_law_10.at 37 rfl) ?_
    refine J_iadd 791 rfl (D_L_law_10.at 38 rfl) ?_
    refine J_sld 792 rfl ⟨by omega, by omega⟩ (D_L_law_10.at 39 rfl) ?_
    refine J_aload_n 793 rfl 0 3 rfl ⟨by decide, by decide⟩ (D_L_law_10.at 40 rfl) ?_
    refine J_iload_n 794 rfl 3 0 rfl (D_L_law_10.at 41 rfl) ?_
    refine J_iconst 795 rfl (D_L_law_10.at 42 rfl) ?_
    refine J_iadd 796 rfl (D_L_law_10.at 43 rfl) ?_
    refine J_sld 797 rfl ⟨by omega, by omega⟩ (D_L_law_10.at 44 rfl) ?_
    refine J_if_eq 800 rfl 804 sV_in (D_L_law_10.at 45 rfl) (by decide) (fun c2 => absurd c2 c1) (fun _ => ?_)
    refine J_iconst 801 rfl (D_L_law_10.at 46 rfl) ?_
    refine J_goto 805 (D_L_law_10.at 47 rfl) (by decide) ?_
    refine J_callV (d' := 3) (as := [vI (sV w (i + 1)), vI 1]) (st := [vI r1]) (o := 68) 808 rfl ok_X12_stone im_X12_stone se_X12_stone ml_L_95 isC_12 ob_68 (Ob.lt ob_68) rfl (by decide) ⟨Nat.le_refl _, Nat.le_refl _⟩ (Nat.le_of_ble_eq_true rfl) (D_L_law_11.at 1 rfl) (sr := fun z => [vI z, vI r1]) (fun _ => rfl) T1 (fun r2 h2 T2 b2 => ?_)
    obtain ⟨e2, I2⟩ := T2
    subst e2
    refine J_icmp_eq 811 rfl 1196 rz rz (D_L_law_11.at 2 rfl) (by decide) (fun _ => ?_) (fun c => absurd rfl c)
    exact T _ I2
theorem law_at_19 (I : Inv c h) (hc : c ≤ 512) (hi : 0 ≤ i ∧ i + 6 ≤ sL w) (T : ∀ h1, Inv (c + 1) h1 → JG w true m_L_law 100 NT NT 1196 [(3, vI i), (2, vR 68), (1, vR 0), (0, vR 2000)] [] h1 K) : JG w true m_L_law 100 NT NT 813 [(3, vI i), (2, vR 68), (1, vR 0), (0, vR 2000)] [] h K := by
  refine J_aload_n 814 rfl 1 2 rfl ⟨by decide, by decide⟩ (D_L_law_11.at 5 rfl) ?_
  refine J_aload_n 815 rfl 0 3 rfl ⟨by decide, by decide⟩ (D_L_law_11.at 6 rfl) ?_
  refine J_iload_n 816 rfl 3 0 rfl (D_L_law_11.at 7 rfl) ?_
  refine J_iconst 817 rfl (D_L_law_11.at 8 rfl) ?_
  refine J_iadd 818 rfl (D_L_law_11.at 9 rfl) ?_
  refine J_sld 819 rfl ⟨by omega, by omega⟩ (D_L_law_11.at 10 rfl) ?_
  refine J_aload_n 820 rfl 0 3 rfl ⟨by decide, by decide⟩ (D_L_law_11.at 11 rfl) ?_
  refine J_iload_n 821 rfl 3 0 rfl (D_L_law_11.at 12 rfl) ?_
  refine J_iconst 822 rfl (D_L_law_11.at 13 rfl) ?_
  refine J_iadd 823 rfl (D_L_law_11.at 14 rfl) ?_
  refine J_sld 824 rfl ⟨by omega, by omega⟩ (D_L_law_11.at 15 rfl) ?_
  refine J_aload_n 825 rfl 0 3 rfl ⟨by decide, by decide⟩ (D_L_law_11.at 16 rfl) ?_
  refine J_iload_n 826 rfl 3 0 rfl (D_L_law_11.at 17 rfl) ?_
  refine J_iconst 827 rfl (D_L_law_11.at 18 rfl) ?_
  refine J_iadd 828 rfl (D_L_law_11.at 19 rfl) ?_
  refine J_sld 829 rfl ⟨by omega, by omega⟩ (D_L_law_11.at 20 rfl) ?_
  refine J_aload_n 830 rfl 0 3 rfl ⟨by decide, by decide⟩ (D_L_law_11.at 21 rfl) ?_
  refine J_iload_n 831 rfl 3 0 rfl (D_L_law_11.at 22 rfl) ?_
  refine J_iconst 832 rfl (D_L_law_11.at 23 rfl) ?_
  refine J_iadd 833 rfl (D_L_law_11.at 24 rfl) ?_
  refine J_sld 834 rfl ⟨by omega, by omega⟩ (D_L_law_11.at 25 rfl) ?_
  refine J_callV (d' := 3) (as := [vI (sV w (i + 1)), vI (sV w (i + 2)), vI (sV w (i + 3)), vI (sV w (i + 4))]) (st := []) (o := 0) 837 rfl ok_X11_rake im_X11_rake se_X11_rake ml_L_96 isC_11 ob_0 (Ob.lt ob_0) rfl (by decide) ⟨Nat.le_refl _, Nat.le_refl _⟩ (Nat.le_of_ble_eq_true rfl) (D_L_law_11.at 26 rfl) (sr := fun z => [vI z]) (fun _ => rfl) (q_rake I sV_in sV_in sV_in sV_in) (fun r1 h1 T1 b1 => ?_)
  have rz : inR r1 := inR_b b1
  replace T1 := T1 b1
  refine J_aload_n 838 rfl 2 1 rfl ⟨by decide, by decide⟩ (D_L_law_11.at 27 rfl) ?_
  refine J_aload_n 839 rfl 0 3 rfl ⟨by decide, by decide⟩ (D_L_law_11.at 28 rfl) ?_
  refine J_iload_n 840 rfl 3 0 rfl (D_L_law_11.at 29 rfl) ?_
  refine J_iconst 841 rfl (D_L_law_11.at 30 rfl) ?_
  refine J_iadd 842 rfl (D_L_law_11.at 31 rfl) ?_
  refine J_sld 843 rfl ⟨by omega, by omega⟩ (D_L_law_11.at 32 rfl) ?_
  refine J_aload_n 844 rfl 0 3 rfl ⟨by decide, by decide⟩ (D_L_law_11.at 33 rfl) ?_
  refine J_iload_n 845 rfl 3 0 rfl (D_L_law_11.at 34 rfl) ?_
  refine J_iconst 846 rfl (D_L_law_11.at 35 rfl) ?_
  refine J_iadd 847 rfl (D_L_law_11.at 36 rfl) ?_
  refine J_sld 848 rfl ⟨by omega, by omega⟩ (D_L_law_11.at 37 rfl) ?_
  refine J_aload_n 849 rfl 0 3 rfl ⟨by decide, by decide⟩ (D_L_law_11.at 38 rfl) ?_
  refine J_iload_n 850 rfl 3 0 rfl (D_L_law_11.at 39 rfl) ?_
  refine J_iconst 851 rfl (D_L_law_11.at 40 rfl) ?_
  refine J_iadd 852 rfl (D_L_law_11.at 41 rfl) ?_
  refine J_sld 853 rfl ⟨by omega, by omega⟩ (D_L_law_11.at 42 rfl) ?_
  refine J_aload_n 854 rfl 0 3 rfl ⟨by decide, by decide⟩ (D_L_law_11.at 43 rfl) ?_
  refine J_iload_n 855 rfl 3 0 rfl (D_L_law_11.at 44 rfl) ?_
  refine J_iconst 856 rfl (D_L_law_11.at 45 rfl) ?_
  refine J_iadd 857 rfl (D_L_law_11.at 46 rfl) ?_
  refine J_sld 858 rfl ⟨by omega, by omega⟩ (D_L_law_11.at 47 rfl) ?_
  refine J_callV (d' := 3) (as := [vI (sV w (i + 1)), vI (sV w (i + 2)), vI (sV w (i + 3)), vI (sV w (i + 4))]) (st := [vI r1]) (o := 68) 861 rfl ok_X12_rake im_X12_rake se_X12_rake ml_L_100 isC_12 ob_68 (Ob.lt ob_68) rfl (by decide) ⟨Nat.le_refl _, Nat.le_refl _⟩ (Nat.le_of_ble_eq_true rfl) (D_L_law_12.at 0 rfl) (sr := fun z => [vI z, vI r1]) (fun _ => rfl) T1 (fun r2 h2 T2 b2 => ?_)
  obtain ⟨e2, I2⟩ := T2
  subst e2
  refine J_icmp_eq 864 rfl 1196 rz rz (D_L_law_12.at 1 rfl) (by decide) (fun _ => ?_) (fun c => absurd rfl c)
  exact T _ I2
theorem law_at_20 (I : Inv c h) (hc : c ≤ 512) (hi : 0 ≤ i ∧ i + 6 ≤ sL w) (T : ∀ h1, Inv (c + 1) h1 → JG w true m_L_law 100 NT NT 1196 [(3, vI i), (2, vR 68), (1, vR 0), (0, vR 2000)] [] h1 K) : JG w true m_L_law 100 NT NT 866 [(3, vI i), (2, vR 68), (1, vR 0), (0, vR 2000)] [] h K := by
  refine J_aload_n 867 rfl 1 2 rfl ⟨by decide, by decide⟩ (D_L_law_12.at 4 rfl) ?_
  refine J_callV (d' := 3) (as := []) (st := []) (o := 0) 870 rfl ok_X11_undo im_X11_undo se_X11_undo ml_L_101 isC_11 ob_0 (Ob.lt ob_0) rfl (by decide) ⟨Nat.le_refl _, Nat.le_refl _⟩ (Nat.le_of_ble_eq_true rfl) (D_L_law_12.at 5 rfl) (sr := fun z => [vI z]) (fun _ => rfl) (q_undo I) (fun r1 h1 T1 b1 => ?_)
  have rz : inR r1 := inR_b b1
  replace T1 := T1 b1
  refine J_aload_n 871 rfl 2 1 rfl ⟨by decide, by decide⟩ (D_L_law_12.at 6 rfl) ?_
  refine J_callV (d' := 1) (as := []) (st := [vI r1]) (o := 68) 874 rfl ok_X12_undo im_X12_undo se_X12_undo ml_L_105 isC_12 ob_68 (Ob.lt ob_68) rfl (by decide) ⟨Nat.le_refl _, Nat.le_refl _⟩ (Nat.le_of_ble_eq_true rfl) (D_L_law_12.at 7 rfl) (sr := fun z => [vI z, vI r1]) (fun _ => rfl) T1 (fun r2 h2 T2 b2 => ?_)
  obtain ⟨e2, I2⟩ := T2
  subst e2
  refine J_icmp_eq 877 rfl 1196 rz rz (D_L_law_12.at 8 rfl) (by decide) (fun _ => ?_) (fun c => absurd rfl c)
  exact T _ I2
theorem law_at_21 (I : Inv c h) (hc : c ≤ 512) (hi : 0 ≤ i ∧ i + 6 ≤ sL w) (T : ∀ h1, Inv (c + 1) h1 → JG w true m_L_law 100 NT NT 1196 [(3, vI i), (2, vR 68), (1, vR 0), (0, vR 2000)] [] h1 K) : JG w true m_L_law 100 NT NT 879 [(3, vI i), (2, vR 68), (1, vR 0), (0, vR 2000)] [] h K := by
  refine J_aload_n 880 rfl 1 2 rfl ⟨by decide, by decide⟩ (D_L_law_12.at 11 rfl) ?_
  refine J_aload_n 881 rfl 0 3 rfl ⟨by decide, by decide⟩ (D_L_law_12.at 12 rfl) ?_
  refine J_iload_n 882 rfl 3 0 rfl (D_L_law_12.at 13 rfl) ?_
  refine J_iconst 883 rfl (D_L_law_12.at 14 rfl) ?_
  refine J_iadd 884 rfl (D_L_law_12.at 15 rfl) ?_
  refine J_sld 885 rfl ⟨by omega, by omega⟩ (D_L_law_12.at 16 rfl) ?_
  refine J_callV (d' := 3) (as := [vI (sV w (i + 1))]) (st := []) (o := 0) 888 rfl ok_X11_seed im_X11_seed se_X11_seed ml_L_106 isC_11 ob_0 (Ob.lt ob_0) rfl (by decide) ⟨Nat.le_refl _, Nat.le_refl _⟩ (Nat.le_of_ble_eq_true rfl) (D_L_law_12.at 17 rfl) (sr := fun z => [vI z]) (fun _ => rfl) (q_seed I sV_in) (fun r1 h1 T1 b1 => ?_)
  have rz : inR r1 := inR_b b1
  replace T1 := T1 b1
  refine J_aload_n 889 rfl 2 1 rfl ⟨by decide, by decide⟩ (D_L_law_12.at 18 rfl) ?_
  refine J_aload_n 890 rfl 0 3 rfl ⟨by decide, by decide⟩ (D_L_law_12.at 19 rfl) ?_
  refine J_iload_n 891 rfl 3 0 rfl (D_L_law_12.at 20 rfl) ?_
  refine J_iconst 892 rfl (D_L_law_12.at 21 rfl) ?_
  refine J_iadd 893 rfl (D_L_law_12.at 22 rfl) ?_
  refine J_sld 894 rfl ⟨by omega, by omega⟩ (D_L_law_12.at 23 rfl) ?_
  refine J_callV (d' := 1) (as := [vI (sV w (i + 1))]) (st := [vI r1]) (o := 68) 897 rfl ok_X12_seed im_X12_seed se_X12_seed ml_L_109 isC_12 ob_68 (Ob.lt ob_68) rfl (by decide) ⟨Nat.le_refl _, Nat.le_refl _⟩ (Nat.le_of_ble_eq_true rfl) (D_L_law_12.at 24 rfl) (sr := fun z => [vI z, vI r1]) (fun _ => rfl) T1 (fun r2 h2 T2 b2 => ?_)
  obtain ⟨e2, I2⟩ := T2
  subst e2
  refine J_icmp_eq 900 rfl 1196 rz rz (D_L_law_12.at 25 rfl) (by decide) (fun _ => ?_) (fun c => absurd rfl c)
  exact T _ I2
theorem law_at_22 (I : Inv c h) (hc : c ≤ 512) (hi : 0 ≤ i ∧ i + 6 ≤ sL w) (T : ∀ h1, Inv (c + 1) h1 → JG w true m_L_law 100 NT NT 1196 [(3, vI i), (2, vR 68), (1, vR 0), (0, vR 2000)] [] h1 K) : JG w true m_L_law 100 NT NT 902 [(3, vI i), (2, vR 68), (1, vR 0), (0, vR 2000)] [] h K := by
  refine J_aload_n 903 rfl 1 2 rfl ⟨by decide, by decide⟩ (D_L_law_12.at 28 rfl) ?_
  refine J_aload_n 904 rfl 0 3 rfl ⟨by decide, by decide⟩ (D_L_law_12.at 29 rfl) ?_
  refine J_iload_n 905 rfl 3 0 rfl (D_L_law_12.at 30 rfl) ?_
  refine J_iconst 906 rfl (D_L_law_12.at 31 rfl) ?_
  refine J_iadd 907 rfl (D_L_law_12.at 32 rfl) ?_
  refine J_sld 908 rfl ⟨by omega, by omega⟩ (D_L_law_12.at 33 rfl) ?_
  refine J_aload_n 909 rfl 0 3 rfl ⟨by decide, by decide⟩ (D_L_law_12.at 34 rfl) ?_
  refine J_iload_n 910 rfl 3 0 rfl (D_L_law_12.at 35 rfl) ?_
  refine J_iconst 911 rfl (D_L_law_12.at 36 rfl) ?_
  refine J_iadd 912 rfl (D_L_law_12.at 37 rfl) ?_
  refine J_sld 913 rfl ⟨by omega, by omega⟩ (D_L_law_12.at 38 rfl) ?_
  refine J_aload_n 914 rfl 0 3 rfl ⟨by decide, by decide⟩ (D_L_law_12.at 39 rfl) ?_
  refine J_iload_n 915 rfl 3 0 rfl (D_L_law_12.at 40 rfl) ?_
  refine J_iconst 916 rfl (D_L_law_12.at 41 rfl) ?_
  refine J_iadd 917 rfl (D_L_law_12.at 42 rfl) ?_
  refine J_sld 918 rfl ⟨by omega, by omega⟩ (D_L_law_12.at 43 rfl) ?_
  refine J_aload_n 919 rfl 0 3 rfl ⟨by decide, by decide⟩ (D_L_law_12.at 44 rfl) ?_
  refine J_iload_n 920 rfl 3 0 rfl (D_L_law_12.at 45 rfl) ?_
  refine J_iconst 921 rfl (D_L_law_12.at 46 rfl) ?_
  refine J_iadd 922 rfl (D_L_law_12.at 47 rfl) ?_
  refine J_sld 923 rfl ⟨by omega, by omega⟩ (D_L_law_13.at 0 rfl) ?_
  refine J_aload_n 924 rfl 0 3 rfl ⟨by decide, by decide⟩ (D_L_law_13.at 1 rfl) ?_
  refine J_iload_n 925 rfl 3 0 rfl (D_L_law_13.at 2 rfl) ?_
  refine J_iconst 926 rfl (D_L_law_13.at 3 rfl) ?_
  refine J_iadd 927 rfl (D_L_law_13.at 4 rfl) ?_
  refine J_sld 928 rfl ⟨by omega, by omega⟩ (D_L_law_13.at 5 rfl) ?_
  refine J_callV (d' := 7) (as := [vI (sV w (i + 1)), vI (sV w (i + 2)), vI (sV w (i + 3)), vI (sV w (i + 4)), vI (sV w (i + 5))]) (st := []) (o := 0) 931 rfl ok_X11_mine im_X11_mine se_X11_mine ml_L_110 isC_11 ob_0 (Ob.lt ob_0) rfl (by decide) ⟨Nat.le_refl _, Nat.le_refl _⟩ (Nat.le_of_ble_eq_true rfl) (D_L_law_13.at 6 rfl) (sr := fun z => [vI z]) (fun _ => rfl) (q_mine I sV_in sV_in sV_in sV_in sV_in) (fun r1 h1 T1 b1 => ?_)
  obtain ⟨rz, T1⟩ := T1
  refine J_aload_n 932 rfl 2 1 rfl ⟨by decide, by decide⟩ (D_L_law_13.at 7 rfl) ?_
  refine J_aload_n 933 rfl 0 3 rfl ⟨by decide, by decide⟩ (D_L_law_13.at 8 rfl) ?_
  refine J_iload_n 934 rfl 3 0 rfl (D_L_law_13.at 9 rfl) ?_
  refine J_iconst 935 rfl (D_L_law_13.at 10 rfl) ?_
  refine J_iadd 936 rfl (D_L_law_13.at 11 rfl) ?_
  refine J_sld 937 rfl ⟨by omega, by omega⟩ (D_L_law_13.at 12 rfl) ?_
  refine J_aload_n 938 rfl 0 3 rfl ⟨by decide, by decide⟩ (D_L_law_13.at 13 rfl) ?_
  refine J_iload_n 939 rfl 3 0 rfl (D_L_law_13.at 14 rfl) ?_
  refine J_iconst 940 rfl (D_L_law_13.at 15 rfl) ?_
  refine J_iadd 941 rfl (D_L_law_13.at 16 rfl) ?_
  refine J_sld 942 rfl ⟨by omega, by omega⟩ (D_L_law_13.at 17 rfl) ?_
  refine J_aload_n 943 rfl 0 3 rfl ⟨by decide, by decide⟩ (D_L_law_13.at 18 rfl) ?_
  refine J_iload_n 944 rfl 3 0 rfl (D_L_law_13.at 19 rfl) ?_
  refine J_iconst 945 rfl (D_L_law_13.at 20 rfl) ?_
  refine J_iadd 946 rfl (D_L_law_13.at 21 rfl) ?_
  refine J_sld 947 rfl ⟨by omega, by omega⟩ (D_L_law_13.at 22 rfl) ?_
  refine J_aload_n 948 rfl 0 3 rfl ⟨by decide, by decide⟩ (D_L_law_13.at 23 rfl) ?_
  refine J_iload_n 949 rfl 3 0 rfl (D_L_law_13.at 24 rfl) ?_
  refine J_iconst 950 rfl (D_L_law_13.at 25 rfl) ?_
  refine J_iadd 951 rfl (D_L_law_13.at 26 rfl) ?_
  refine J_sld 952 rfl ⟨by omega, by omega⟩ (D_L_law_13.at 27 rfl) ?_
  refine J_aload_n 953 rfl 0 3 rfl ⟨by decide, by decide⟩ (D_L_law_13.at 28 rfl) ?_
  refine J_iload_n 954 rfl 3 0 rfl (D_L_law_13.at 29 rfl) ?_
  refine J_iconst 955 rfl (D_L_law_13.at 30 rfl) ?_
  refine J_iadd 956 rfl (D_L_law_13.at 31 rfl) ?_
  refine J_sld 957 rfl ⟨by omega, by omega⟩ (D_L_law_13.at 32 rfl) ?_
  refine J_callV (d' := 7) (as := [vI (sV w (i + 1)), vI (sV w (i + 2)), vI (sV w (i + 3)), vI (sV w (i + 4)), vI (sV w (i + 5))]) (st := [vI r1]) (o := 68) 960 rfl ok_X12_mine im_X12_mine se_X12_mine ml_L_113 isC_12 ob_68 (Ob.lt ob_68) rfl (by decide) ⟨Nat.le_refl _, Nat.le_refl _⟩ (Nat.le_of_ble_eq_true rfl) (D_L_law_13.at 33 rfl) (sr := fun z => [vI z, vI r1]) (fun _ => rfl) T1 (fun r2 h2 T2 b2 => ?_)
  obtain ⟨e2, I2⟩ := T2
  subst e2
  refine J_icmp_eq 963 rfl 1196 rz rz (D_L_law_13.at 34 rfl) (by decide) (fun _ => ?_) (fun c => absurd rfl c)
  exact T _ I2
theorem law_at_23 (I : Inv c h) (hc : c ≤ 512) (hi : 0 ≤ i ∧ i + 6 ≤ sL w) (T : ∀ h1, Inv (c + 1) h1 → JG w true m_L_law 100 NT NT 1196 [(3, vI i), (2, vR 68), (1, vR 0), (0, vR 2000)] [] h1 K) : JG w true m_L_law 100 NT NT 965 [(3, vI i), (2, vR 68), (1, vR 0), (0, vR 2000)] [] h K := by
  refine J_aload_n 966 rfl 1 2 rfl ⟨by decide, by decide⟩ (D_L_law_13.at 37 rfl) ?_
  refine J_aload_n 967 rfl 0 3 rfl ⟨by decide, by decide⟩ (D_L_law_13.at 38 rfl) ?_
  refine J_iload_n 968 rfl 3 0 rfl (D_L_law_13.at 39 rfl) ?_
  refine J_iconst 969 rfl (D_L_law_13.at 40 rfl) ?_
  refine J_iadd 970 rfl (D_L_law_13.at 41 rfl) ?_
  refine J_sld 971 rfl ⟨by omega, by omega⟩ (D_L_law_13.at 42 rfl) ?_
  refine J_aload_n 972 rfl 0 3 rfl ⟨by decide, by decide⟩ (D_L_law_13.at 43 rfl) ?_
  refine J_iload_n 973 rfl 3 0 rfl (D_L_law_13.at 44 rfl) ?_
  refine J_iconst 974 rfl (D_L_law_13.at 45 rfl) ?_
  refine J_iadd 975 rfl (D_L_law_13.at 46 rfl) ?_
  refine J_sld 976 rfl ⟨by omega, by omega⟩ (D_L_law_13.at 47 rfl) ?_
  refine J_aload_n 977 rfl 0 3 rfl ⟨by decide, by decide⟩ (D_L_law_14.at 0 rfl) ?_
  refine J_iload_n 978 rfl 3 0 rfl (D_L_law_14.at 1 rfl) ?_
  refine J_iconst 979 rfl (D_L_law_14.at 2 rfl) ?_
  refine J_iadd 980 rfl (D_L_law_14.at 3 rfl) ?_
  refine J_sld 981 rfl ⟨by omega, by omega⟩ (D_L_law_14.at 4 rfl) ?_
  refine J_aload_n 982 rfl 0 3 rfl ⟨by decide, by decide⟩ (D_L_law_14.at 5 rfl) ?_
  refine J_iload_n 983 rfl 3 0 rfl (D_L_law_14.at 6 rfl) ?_
  refine J_iconst 984 rfl (D_L_law_14.at 7 rfl) ?_
  refine J_iadd 985 rfl (D_L_law_14.at 8 rfl) ?_
  refine J_sld 986 rfl ⟨by omega, by omega⟩ (D_L_law_14.at 9 rfl) ?_
  refine J_callV (d' := 6) (as := [vI (sV w (i + 1)), vI (sV w (i + 2)), vI (sV w (i + 3)), vI (sV w (i + 4))]) (st := []) (o := 0) 989 rfl ok_X11_keep im_X11_keep se_X11_keep ml_L_114 isC_11 ob_0 (Ob.lt ob_0) rfl (by decide) ⟨Nat.le_refl _, Nat.le_refl _⟩ (Nat.le_of_ble_eq_true rfl) (D_L_law_14.at 10 rfl) (sr := fun z => [vI z]) (fun _ => rfl) (q_keep I sV_in sV_in sV_in sV_in) (fun r1 h1 T1 b1 => ?_)
  obtain ⟨rz, T1⟩ := T1
  refine J_aload_n 990 rfl 2 1 rfl ⟨by decide, by decide⟩ (D_L_law_14.at 11 rfl) ?_
  refine J_aload_n 991 rfl 0 3 rfl ⟨by decide, by decide⟩ (D_L_law_14.at 12 rfl) ?_
  refine J_iload_n 992 rfl 3 0 rfl (D_L_law_14.at 13 rfl) ?_
  refine J_iconst 993 rfl (D_L_law_14.at 14 rfl) ?_
  refine J_iadd 994 rfl (D_L_law_14.at 15 rfl) ?_
  refine J_sld 995 rfl ⟨by omega, by omega⟩ (D_L_law_14.at 16 rfl) ?_
  refine J_aload_n 996 rfl 0 3 rfl ⟨by decide, by decide⟩ (D_L_law_14.at 17 rfl) ?_
  refine J_iload_n 997 rfl 3 0 rfl (D_L_law_14.at 18 rfl) ?_
  refine J_iconst 998 rfl (D_L_law_14.at 19 rfl) ?_
  refine J_iadd 999 rfl (D_L_law_14.at 20 rfl) ?_
  refine J_sld 1000 rfl ⟨by omega, by omega⟩ (D_L_law_14.at 21 rfl) ?_
  refine J_aload_n 1001 rfl 0 3 rfl ⟨by decide, by decide⟩ (D_L_law_14.at 22 rfl) ?_
  refine J_iload_n 1002 rfl 3 0 rfl (D_L_law_14.at 23 rfl) ?_
  refine J_iconst 1003 rfl (D_L_law_14.at 24 rfl) ?_
  refine J_iadd 1004 rfl (D_L_law_14.at 25 rfl) ?_
  refine J_sld 1005 rfl ⟨by omega, by omega⟩ (D_L_law_14.at 26 rfl) ?_
  refine J_aload_n 1006 rfl 0 3 rfl ⟨by decide, by decide⟩ (D_L_law_14.at 27 rfl) ?_
  refine J_iload_n 1007 rfl 3 0 rfl (D_L_law_14.at 28 rfl) ?_
  refine J_iconst 1008 rfl (D_L_law_14.at 29 rfl) ?_
  refine J_iadd 1009 rfl (D_L_law_14.at 30 rfl) ?_
  refine J_sld 1010 rfl ⟨by omega, by omega⟩ (D_L_law_14.at 31 rfl) ?_
  refine J_callV (d' := 7) (as := [vI (sV w (i + 1)), vI (sV w (i + 2)), vI (sV w (i + 3)), vI (sV w (i + 4))]) (st := [vI r1]) (o := 68) 1013 rfl ok_X12_keep im_X12_keep se_X12_keep ml_L_118 isC_12 ob_68 (Ob.lt ob_68) rfl (by decide) ⟨Nat.le_refl _, Nat.le_refl _⟩ (Nat.le_of_ble_eq_true rfl) (D_L_law_14.at 32 rfl) (sr := fun z => [vI z, vI r1]) (fun _ => rfl) T1 (fun r2 h2 T2 b2 => ?_)
  obtain ⟨e2, I2⟩ := T2
  subst e2
  refine J_icmp_eq 1016 rfl 1196 rz rz (D_L_law_14.at 33 rfl) (by decide) (fun _ => ?_) (fun c => absurd rfl c)
  exact T _ I2
theorem law_at_24 (I : Inv c h) (hc : c ≤ 512) (hi : 0 ≤ i ∧ i + 6 ≤ sL w) (T : ∀ h1, Inv (c + 1) h1 → JG w true m_L_law 100 NT NT 1196 [(3, vI i), (2, vR 68), (1, vR 0), (0, vR 2000)] [] h1 K) : JG w true m_L_law 100 NT NT 1018 [(3, vI i), (2, vR 68), (1, vR 0), (0, vR 2000)] [] h K := by
  refine J_aload_n 1019 rfl 1 2 rfl ⟨by decide, by decide⟩ (D_L_law_14.at 36 rfl) ?_
  refine J_aload_n 1020 rfl 0 3 rfl ⟨by decide, by decide⟩ (D_L_law_14.at 37 rfl) ?_
  refine J_iload_n 1021 rfl 3 0 rfl (D_L_law_14.at 38 rfl) ?_
  refine J_iconst 1022 rfl (D_L_law_14.at 39 rfl) ?_
  refine J_iadd 1023 rfl (D_L_law_14.at 40 rfl) ?_
  refine J_sld 1024 rfl ⟨by omega, by omega⟩ (D_L_law_14.at 41 rfl) ?_
  refine J_aload_n 1025 rfl 0 3 rfl ⟨by decide, by decide⟩ (D_L_law_14.at 42 rfl) ?_
  refine J_iload_n 1026 rfl 3 0 rfl (D_L_law_14.at 43 rfl) ?_
  refine J_iconst 1027 rfl (D_L_law_14.at 44 rfl) ?_
  refine J_iadd 1028 rfl (D_L_law_14.at 45 rfl) ?_
  refine J_sld 1029 rfl ⟨by omega, by omega⟩ (D_L_law_14.at 46 rfl) ?_
  refine J_aload_n 1030 rfl 0 3 rfl ⟨by decide, by decide⟩ (D_L_law_14.at 47 rfl) ?_
  refine J_iload_n 1031 rfl 3 0 rfl (D_L_law_15.at 0 rfl) ?_
  refine J_iconst 1032 rfl (D_L_law_15.at 1 rfl) ?_
  refine J_iadd 1033 rfl (D_L_law_15.at 2 rfl) ?_
  refine J_sld 1034 rfl ⟨by omega, by omega⟩ (D_L_law_15.at 3 rfl) ?_
  refine J_callV (d' := 7) (as := [vI (sV w (i + 1)), vI (sV w (i + 2)), vI (sV w (i + 3))]) (st := []) (o := 0) 1037 rfl ok_X11_until im_X11_until se_X11_until ml_L_119 isC_11 ob_0 (Ob.lt ob_0) rfl (by decide) ⟨Nat.le_refl _, Nat.le_refl _⟩ (Nat.le_of_ble_eq_true rfl) (D_L_law_15.at 4 rfl) (sr := fun z => [vI z]) (fun _ => rfl) (q_until I sV_in sV_in sV_in) (fun r1 h1 T1 b1 => ?_)
  obtain ⟨rz, T1⟩ := T1
  refine J_aload_n 1038 rfl 2 1 rfl ⟨by decide, by decide⟩ (D_L_law_15.at 5 rfl) ?_
  refine J_aload_n 1039 rfl 0 3 rfl ⟨by decide, by decide⟩ (D_L_law_15.at 6 rfl) ?_
  refine J_iload_n 1040 rfl 3 0 rfl (D_L_law_15.at 7 rfl) ?_
  refine J_iconst 1041 rfl (D_L_law_15.at 8 rfl) ?_
  refine J_iadd 1042 rfl (D_L_law_15.at 9 rfl) ?_
  refine J_sld 1043 rfl ⟨by omega, by omega⟩ (D_L_law_15.at 10 rfl) ?_
  refine J_aload_n 1044 rfl 0 3 rfl ⟨by decide, by decide⟩ (D_L_law_15.at 11 rfl) ?_
  refine J_iload_n 1045 rfl 3 0 rfl (D_L_law_15.at 12 rfl) ?_
  refine J_iconst 1046 rfl (D_L_law_15.at 13 rfl) ?_
  refine J_iadd 1047 rfl (D_L_law_15.at 14 rfl) ?_
  refine J_sld 1048 rfl ⟨by omega, by omega⟩ (D_L_law_15.at 15 rfl) ?_
  refine J_aload_n 1049 rfl 0 3 rfl ⟨by decide, by decide⟩ (D_L_law_15.at 16 rfl) ?_
  refine J_iload_n 1050 rfl 3 0 rfl (D_L_law_15.at 17 rfl) ?_
  refine J_iconst 1051 rfl (D_L_law_15.at 18 rfl) ?_
  refine J_iadd 1052 rfl (D_L_law_15.at 19 rfl) ?_
  refine J_sld 1053 rfl ⟨by omega, by omega⟩ (D_L_law_15.at 20 rfl) ?_
  refine J_callV (d' := 8) (as := [vI (sV w (i + 1)), vI (sV w (i + 2)), vI (sV w (i + 3))]) (st := [vI r1]) (o := 68) 1056 rfl ok_X12_until im_X12_until se_X12_until ml_L_122 isC_12 ob_68 (Ob.lt ob_68) rfl (by decide) ⟨Nat.le_refl _, Nat.le_refl _⟩ (Nat.le_of_ble_eq_true rfl) (D_L_law_15.at 21 rfl) (sr := fun z => [vI z, vI r1]) (fun _ => rfl) T1 (fun r2 h2 T2 b2 => ?_)
  obtain ⟨e2, I2⟩ := T2
  subst e2
  refine J_icmp_eq 1059 rfl 1196 rz rz (D_L_law_15.at 22 rfl) (by decide) (fun _ => ?_) (fun c => absurd rfl c)
  exact T _ I2
theorem law_at_25 (I : Inv c h) (hc : c ≤ 512) (hi : 0 ≤ i ∧ i + 6 ≤ sL w) (T : ∀ h1, Inv (c + 1) h1 → JG w true m_L_law 100 NT NT 1196 [(3, vI i), (2, vR 68), (1, vR 0), (0, vR 2000)] [] h1 K) : JG w true m_L_law 100 NT NT 1061 [(3, vI i), (2, vR 68), (1, vR 0), (0, vR 2000)] [] h K := by
  refine J_aload_n 1062 rfl 1 2 rfl ⟨by decide, by decide⟩ (D_L_law_15.at 25 rfl) ?_
  refine J_callV (d' := 3) (as := []) (st := []) (o := 0) 1065 rfl ok_X11_find im_X11_find se_X11_find ml_L_123 isC_11 ob_0 (Ob.lt ob_0) rfl (by decide) ⟨Nat.le_refl _, Nat.le_refl _⟩ (Nat.le_of_ble_eq_true rfl) (D_L_law_15.at 26 rfl) (sr := fun z => [vI z]) (fun _ => rfl) (q_find I) (fun r1 h1 T1 b1 => ?_)
  have rz : inR r1 := inR_b b1
  replace T1 := T1 b1
  refine J_aload_n 1066 rfl 2 1 rfl ⟨by decide, by decide⟩ (D_L_law_15.at 27 rfl) ?_
  refine J_callV (d' := 1) (as := []) (st := [vI r1]) (o := 68) 1069 rfl ok_X12_find im_X12_find se_X12_find ml_L_126 isC_12 ob_68 (Ob.lt ob_68) rfl (by decide) ⟨Nat.le_refl _, Nat.le_refl _⟩ (Nat.le_of_ble_eq_true rfl) (D_L_law_15.at 28 rfl) (sr := fun z => [vI z, vI r1]) (fun _ => rfl) T1 (fun r2 h2 T2 b2 => ?_)
  obtain ⟨e2, I2⟩ := T2
  subst e2
  refine J_icmp_eq 1072 rfl 1196 rz rz (D_L_law_15.at 29 rfl) (by decide) (fun _ => ?_) (fun c => absurd rfl c)
  exact T _ I2
theorem law_at_26 (I : Inv c h) (hc : c ≤ 512) (hi : 0 ≤ i ∧ i + 6 ≤ sL w) (T : ∀ h1, Inv (c + 1) h1 → JG w true m_L_law 100 NT NT 1196 [(3, vI i), (2, vR 68), (1, vR 0), (0, vR 2000)] [] h1 K) : JG w true m_L_law 100 NT NT 1074 [(3, vI i), (2, vR 68), (1, vR 0), (0, vR 2000)] [] h K := by
  refine J_aload_n 1075 rfl 1 2 rfl ⟨by decide, by decide⟩ (D_L_law_15.at 32 rfl) ?_
  refine J_callV (d' := 7) (as := []) (st := []) (o := 0) 1078 rfl ok_X11_levels im_X11_levels se_X11_levels ml_L_127 isC_11 ob_0 (Ob.lt ob_0) rfl (by decide) ⟨Nat.le_refl _, Nat.le_refl _⟩ (Nat.le_of_ble_eq_true rfl) (D_L_law_15.at 33 rfl) (sr := fun z => [vI z]) (fun _ => rfl) (q_levels I) (fun r1 h1 T1 b1 => ?_)
  obtain ⟨rz, T1⟩ := T1
  refine J_aload_n 1079 rfl 2 1 rfl ⟨by decide, by decide⟩ (D_L_law_15.at 34 rfl) ?_
  refine J_callV (d' := 7) (as := []) (st := [vI r1]) (o := 68) 1082 rfl ok_X12_levels im_X12_levels se_X12_levels ml_L_130 isC_12 ob_68 (Ob.lt ob_68) rfl (by decide) ⟨Nat.le_refl _, Nat.le_refl _⟩ (Nat.le_of_ble_eq_true rfl) (D_L_law_15.at 35 rfl) (sr := fun z => [vI z, vI r1]) (fun _ => rfl) T1 (fun r2 h2 T2 b2 => ?_)
  obtain ⟨e2, I2⟩ := T2
  subst e2
  refine J_icmp_eq 1085 rfl 1196 rz rz (D_L_law_15.at 36 rfl) (by decide) (fun _ => ?_) (fun c => absurd rfl c)
  exact T _ I2
theorem law_at_27 (I : Inv c h) (hc : c ≤ 512) (hi : 0 ≤ i ∧ i + 6 ≤ sL w) (T : ∀ h1, Inv (c + 1) h1 → JG w true m_L_law 100 NT NT 1196 [(3, vI i), (2, vR 68), (1, vR 0), (0, vR 2000)] [] h1 K) : JG w true m_L_law 100 NT NT 1087 [(3, vI i), (2, vR 68), (1, vR 0), (0, vR 2000)] [] h K := by
  refine J_aload_n 1088 rfl 1 2 rfl ⟨by decide, by decide⟩ (D_L_law_15.at 39 rfl) ?_
  refine J_aload_n 1089 rfl 0 3 rfl ⟨by decide, by decide⟩ (D_L_law_15.at 40 rfl) ?_
  refine J_iload_n 1090 rfl 3 0 rfl (D_L_law_15.at 41 rfl) ?_
  refine J_iconst 1091 rfl (D_L_law_15.at 42 rfl) ?_
  refine J_iadd 1092 rfl (D_L_law_15.at 43 rfl) ?_
  refine J_sld 1093 rfl ⟨by omega, by omega⟩ (D_L_law_15.at 44 rfl) ?_
  refine J_callV (d' := 4) (as := [vI (sV w (i + 1))]) (st := []) (o := 0) 1096 rfl ok_X11_forged im_X11_forged se_X11_forged ml_L_131 isC_11 ob_0 (Ob.lt ob_0) rfl (by decide) ⟨Nat.le_refl _, Nat.le_refl _⟩ (Nat.le_of_ble_eq_true rfl) (D_L_law_15.at 45 rfl) (sr := fun z => [vI z]) (fun _ => rfl) (q_forged I sV_in) (fun r1 h1 T1 b1 => ?_)
  obtain ⟨rz, T1⟩ := T1
  refine J_aload_n 1097 rfl 2 1 rfl ⟨by decide, by decide⟩ (D_L_law_15.at 46 rfl) ?_
  refine J_aload_n 1098 rfl 0 3 rfl ⟨by decide, by decide⟩ (D_L_law_15.at 47 rfl) ?_
  refine J_iload_n 1099 rfl 3 0 rfl (D_L_law_16.at 0 rfl) ?_
  refine J_iconst 1100 rfl (D_L_law_16.at 1 rfl) ?_
  refine J_iadd 1101 rfl (D_L_law_16.at 2 rfl) ?_
  refine J_sld 1102 rfl ⟨by omega, by omega⟩ (D_L_law_16.at 3 rfl) ?_
  refine J_callV (d' := 3) (as := [vI (sV w (i + 1))]) (st := [vI r1]) (o := 68) 1105 rfl ok_X12_forged im_X12_forged se_X12_forged ml_L_134 isC_12 ob_68 (Ob.lt ob_68) rfl (by decide) ⟨Nat.le_refl _, Nat.le_refl _⟩ (Nat.le_of_ble_eq_true rfl) (D_L_law_16.at 4 rfl) (sr := fun z => [vI z, vI r1]) (fun _ => rfl) T1 (fun r2 h2 T2 b2 => ?_)
  obtain ⟨e2, I2⟩ := T2
  subst e2
  refine J_icmp_eq 1108 rfl 1196 rz rz (D_L_law_16.at 5 rfl) (by decide) (fun _ => ?_) (fun c => absurd rfl c)
  exact T _ I2
theorem law_at_28 (I : Inv c h) (hc : c ≤ 512) (hi : 0 ≤ i ∧ i + 6 ≤ sL w) (T : ∀ h1, Inv (c + 1) h1 → JG w true m_L_law 100 NT NT 1196 [(3, vI i), (2, vR 68), (1, vR 0), (0, vR 2000)] [] h1 K) : JG w true m_L_law 100 NT NT 1110 [(3, vI i), (2, vR 68), (1, vR 0), (0, vR 2000)] [] h K := by
  refine J_aload_n 1111 rfl 1 2 rfl ⟨by decide, by decide⟩ (D_L_law_16.at 8 rfl) ?_
  refine J_callV (d' := 62) (as := []) (st := []) (o := 0) 1114 rfl ok_X11_ask im_X11_ask se_X11_ask ml_L_135 isC_11 ob_0 (Ob.lt ob_0) rfl (by decide) ⟨Nat.le_refl _, Nat.le_refl _⟩ (Nat.le_of_ble_eq_true rfl) (D_L_law_16.at 9 rfl) (sr := fun z => [vL z]) (fun _ => rfl) (q_ask I) (fun r1 h1 T1 b1 => ?_)
  obtain ⟨rz, T1⟩ := T1
  refine J_aload_n 1115 rfl 2 1 rfl ⟨by decide, by decide⟩ (D_L_law_16.at 10 rfl) ?_
  refine J_callV (d' := 10) (as := []) (st := [vL r1]) (o := 68) 1118 rfl ok_X12_ask im_X12_ask se_X12_ask ml_L_139 isC_12 ob_68 (Ob.lt ob_68) rfl (by decide) ⟨Nat.le_refl _, Nat.le_refl _⟩ (Nat.le_of_ble_eq_true rfl) (D_L_law_16.at 11 rfl) (sr := fun z => [vL z, vL r1]) (fun _ => rfl) T1 (fun r2 h2 T2 b2 => ?_)
  obtain ⟨e2, I2⟩ := T2
  subst e2
  refine J_lcmp_eq 1122 rfl 1196 rz rz (D_L_law_16.at 12 rfl) (D_L_law_16.at 13 rfl) (by decide) (fun _ => ?_) (fun c => absurd rfl c)
  exact T _ I2
theorem law_at_29 (I : Inv c h) (hc : c ≤ 512) (hi : 0 ≤ i ∧ i + 6 ≤ sL w) (T : ∀ h1, Inv (c + 1) h1 → JG w true m_L_law 100 NT NT 1196 [(3, vI i), (2, vR 68), (1, vR 0), (0, vR 2000)] [] h1 K) : JG w true m_L_law 100 NT NT 1124 [(3, vI i), (2, vR 68), (1, vR 0), (0, vR 2000)] [] h K := by
  refine J_aload_n 1125 rfl 1 2 rfl ⟨by decide, by decide⟩ (D_L_law_16.at 16 rfl) ?_
  refine J_callV (d' := 3) (as := []) (st := []) (o := 0) 1128 rfl ok_X11_image im_X11_image se_X11_image ml_L_140 isC_11 ob_0 (Ob.lt ob_0) rfl (by decide) ⟨Nat.le_refl _, Nat.le_refl _⟩ (Nat.le_of_ble_eq_true rfl) (D_L_law_16.at 17 rfl) (sr := fun z => [vI z]) (fun _ => rfl) (q_image I) (fun r1 h1 T1 b1 => ?_)
  obtain ⟨rz, T1⟩ := T1
  refine J_aload_n 1129 rfl 2 1 rfl ⟨by decide, by decide⟩ (D_L_law_16.at 18 rfl) ?_
  refine J_callV (d' := 3) (as := []) (st := [vI r1]) (o := 68) 1132 rfl ok_X12_image im_X12_image se_X12_image ml_L_143 isC_12 ob_68 (Ob.lt ob_68) rfl (by decide) ⟨Nat.le_refl _, Nat.le_refl _⟩ (Nat.le_of_ble_eq_true rfl) (D_L_law_16.at 19 rfl) (sr := fun z => [vI z, vI r1]) (fun _ => rfl) T1 (fun r2 h2 T2 b2 => ?_)
  obtain ⟨e2, I2⟩ := T2
  subst e2
  refine J_icmp_eq 1135 rfl 1196 rz rz (D_L_law_16.at 20 rfl) (by decide) (fun _ => ?_) (fun c => absurd rfl c)
  exact T _ I2
theorem law_at_30 (I : Inv c h) (hc : c ≤ 512) (hi : 0 ≤ i ∧ i + 6 ≤ sL w) (T : ∀ h1, Inv (c + 1) h1 → JG w true m_L_law 100 NT NT 1196 [(3, vI i), (2, vR 68), (1, vR 0), (0, vR 2000)] [] h1 K) : JG w true m_L_law 100 NT NT 1137 [(3, vI i), (2, vR 68), (1, vR 0), (0, vR 2000)] [] h K := by
  refine J_aload_n 1138 rfl 1 2 rfl ⟨by decide, by decide⟩ (D_L_law_16.at 23 rfl) ?_
  refine J_aload_n 1139 rfl 0 3 rfl ⟨by decide, by decide⟩ (D_L_law_16.at 24 rfl) ?_
  refine J_iload_n 1140 rfl 3 0 rfl (D_L_law_16.at 25 rfl) ?_
  refine J_iconst 1141 rfl (D_L_law_16.at 26 rfl) ?_
  refine J_iadd 1142 rfl (D_L_law_16.at 27 rfl) ?_
  refine J_sld 1143 rfl ⟨by omega, by omega⟩ (D_L_law_16.at 28 rfl) ?_
  refine J_callV (d' := 1) (as := [vI (sV w (i + 1))]) (st := []) (o := 0) 1146 rfl ok_X11_octet im_X11_octet se_X11_octet ml_L_144 isC_11 ob_0 (Ob.lt ob_0) rfl (by decide) ⟨Nat.le_refl _, Nat.le_refl _⟩ (Nat.le_of_ble_eq_true rfl) (D_L_law_16.at 29 rfl) (sr := fun z => [vI z]) (fun _ => rfl) (q_octet I sV_in) (fun r1 h1 T1 b1 => ?_)
  obtain ⟨rz, T1⟩ := T1
  refine J_aload_n 1147 rfl 2 1 rfl ⟨by decide, by decide⟩ (D_L_law_16.at 30 rfl) ?_
  refine J_aload_n 1148 rfl 0 3 rfl ⟨by decide, by decide⟩ (D_L_law_16.at 31 rfl) ?_
  refine J_iload_n 1149 rfl 3 0 rfl (D_L_law_16.at 32 rfl) ?_
  refine J_iconst 1150 rfl (D_L_law_16.at 33 rfl) ?_
  refine J_iadd 1151 rfl (D_L_law_16.at 34 rfl) ?_
  refine J_sld 1152 rfl ⟨by omega, by omega⟩ (D_L_law_16.at 35 rfl) ?_
  refine J_callV (d' := 1) (as := [vI (sV w (i + 1))]) (st := [vI r1]) (o := 68) 1155 rfl ok_X12_octet im_X12_octet se_X12_octet ml_L_147 isC_12 ob_68 (Ob.lt ob_68) rfl (by decide) ⟨Nat.le_refl _, Nat.le_refl _⟩ (Nat.le_of_ble_eq_true rfl) (D_L_law_16.at 36 rfl) (sr := fun z => [vI z, vI r1]) (fun _ => rfl) T1 (fun r2 h2 T2 b2 => ?_)
  obtain ⟨e2, I2⟩ := T2
  subst e2
  refine J_icmp_eq 1158 rfl 1196 rz rz (D_L_law_16.at 37 rfl) (by decide) (fun _ => ?_) (fun c => absurd rfl c)
  exact T _ I2
theorem law_at_31 (I : Inv c h) (hc : c ≤ 512) (hi : 0 ≤ i ∧ i + 6 ≤ sL w) (T : ∀ h1, Inv (c + 1) h1 → JG w true m_L_law 100 NT NT 1196 [(3, vI i), (2, vR 68), (1, vR 0), (0, vR 2000)] [] h1 K) : JG w true m_L_law 100 NT NT 1160 [(3, vI i), (2, vR 68), (1, vR 0), (0, vR 2000)] [] h K := by
  refine J_aload_n 1161 rfl 1 2 rfl ⟨by decide, by decide⟩ (D_L_law_16.at 40 rfl) ?_
  refine J_callV (d' := 5) (as := []) (st := []) (o := 0) 1164 rfl ok_X11_on im_X11_on se_X11_on ml_L_148 isC_11 ob_0 (Ob.lt ob_0) rfl (by decide) ⟨Nat.le_refl _, Nat.le_refl _⟩ (Nat.le_of_ble_eq_true rfl) (D_L_law_16.at 41 rfl) (sr := fun z => [vI z]) (fun _ => rfl) (q_on I) (fun r1 h1 T1 b1 => ?_)
  have rz : inR r1 := inR_b b1
  replace T1 := T1 b1
  refine J_aload_n 1165 rfl 2 1 rfl ⟨by decide, by decide⟩ (D_L_law_16.at 42 rfl) ?_
  refine J_callV (d' := 3) (as := []) (st := [vI r1]) (o := 68) 1168 rfl ok_X12_on im_X12_on se_X12_on ml_L_151 isC_12 ob_68 (Ob.lt ob_68) rfl (by decide) ⟨Nat.le_refl _, Nat.le_refl _⟩ (Nat.le_of_ble_eq_true rfl) (D_L_law_16.at 43 rfl) (sr := fun z => [vI z, vI r1]) (fun _ => rfl) T1 (fun r2 h2 T2 b2 => ?_)
  obtain ⟨e2, I2⟩ := T2
  subst e2
  refine J_icmp_eq 1171 rfl 1196 rz rz (D_L_law_16.at 44 rfl) (by decide) (fun _ => ?_) (fun c => absurd rfl c)
  exact T _ I2
theorem law_at_32 (I : Inv c h) (hc : c ≤ 512) (hi : 0 ≤ i ∧ i + 6 ≤ sL w) (T : ∀ h1, Inv (c + 1) h1 → JG w true m_L_law 100 NT NT 1196 [(3, vI i), (2, vR 68), (1, vR 0), (0, vR 2000)] [] h1 K) : JG w true m_L_law 100 NT NT 1173 [(3, vI i), (2, vR 68), (1, vR 0), (0, vR 2000)] [] h K := by
  refine J_aload_n 1174 rfl 1 2 rfl ⟨by decide, by decide⟩ (D_L_law_16.at 47 rfl) ?_
  refine J_aload_n 1175 rfl 0 3 rfl ⟨by decide, by decide⟩ (D_L_law_17.at 0 rfl) ?_
  refine J_iload_n 1176 rfl 3 0 rfl (D_L_law_17.at 1 rfl) ?_
  refine J_iconst 1177 rfl (D_L_law_17.at 2 rfl) ?_
  refine J_iadd 1178 rfl (D_L_law_17.at 3 rfl) ?_
  refine J_sld 1179 rfl ⟨by omega, by omega⟩ (D_L_law_17.at 4 rfl) ?_
  refine J_callV (d' := 1) (as := [vI (sV w (i + 1))]) (st := []) (o := 0) 1182 rfl ok_X11_status im_X11_status se_X11_status ml_L_152 isC_11 ob_0 (Ob.lt ob_0) rfl (by decide) ⟨Nat.le_refl _, Nat.le_refl _⟩ (Nat.le_of_ble_eq_true rfl) (D_L_law_17.at 5 rfl) (sr := fun z => [vI z]) (fun _ => rfl) (q_status I hc sV_in) (fun r1 h1 T1 b1 => ?_)
  obtain ⟨rz, T1⟩ := T1
  refine J_aload_n 1183 rfl 2 1 rfl ⟨by decide, by decide⟩ (D_L_law_17.at 6 rfl) ?_
  refine J_aload_n 1184 rfl 0 3 rfl ⟨by decide, by decide⟩ (D_L_law_17.at 7 rfl) ?_
  refine J_iload_n 1185 rfl 3 0 rfl (D_L_law_17.at 8 rfl) ?_
  refine J_iconst 1186 rfl (D_L_law_17.at 9 rfl) ?_
  refine J_iadd 1187 rfl (D_L_law_17.at 10 rfl) ?_
  refine J_sld 1188 rfl ⟨by omega, by omega⟩ (D_L_law_17.at 11 rfl) ?_
  refine J_callV (d' := 2) (as := [vI (sV w (i + 1))]) (st := [vI r1]) (o := 68) 1191 rfl ok_X12_status im_X12_status se_X12_status ml_L_155 isC_12 ob_68 (Ob.lt ob_68) rfl (by decide) ⟨Nat.le_refl _, Nat.le_refl _⟩ (Nat.le_of_ble_eq_true rfl) (D_L_law_17.at 12 rfl) (sr := fun z => [vI z, vI r1]) (fun _ => rfl) T1 (fun r2 h2 T2 b2 => ?_)
  obtain ⟨e2, I2⟩ := T2
  subst e2
  refine J_icmp_eq 1194 rfl 1196 rz rz (D_L_law_17.at 13 rfl) (by decide) (fun _ => ?_) (fun c => absurd rfl c)
  exact T _ I2
theorem law_27 (I : Inv c h) (hc : c ≤ 512) (hi : 0 ≤ i ∧ i + 6 ≤ sL w) (T : ∀ h1, Inv (c + 1) h1 → JG w true m_L_law 100 NT NT 1196 [(3, vI i), (2, vR 68), (1, vR 0), (0, vR 2000)] [] h1 K) : JG w true m_L_law 100 NT NT 27 [(3, vI i), (2, vR 68), (1, vR 0), (0, vR 2000)] [] h K := by
  refine J_aload_n 28 rfl 0 3 rfl ⟨by decide, by decide⟩ (D_L_law_0.at 16 rfl) ?_
  refine J_iload_n 29 rfl 3 0 rfl (D_L_law_0.at 17 rfl) ?_
  refine J_sld 30 rfl ⟨by omega, by omega⟩ (D_L_law_0.at 18 rfl) ?_
  refine J_bipush 32 rfl ⟨by decide, by decide⟩ (D_L_law_0.at 19 rfl) ?_
  refine J_maskE (mm := 64) 33 rfl 6 (by decide) rfl rfl (D_L_law_0.at 20 rfl) ?_
  obtain ⟨v, ev⟩ : ∃ v, v = sV w i % 64 := ⟨_, rfl⟩
  rw [← ev]
  have vb : 0 ≤ v ∧ v < 64 := by omega
  have vr : inR v := ⟨by omega, by omega⟩
  clear ev
  have tg : v = 0 ∨ v = 1 ∨ v = 2 ∨ v = 3 ∨ v = 4 ∨ v = 5 ∨ v = 6 ∨ v = 7 ∨ v = 8 ∨ v = 9 ∨ v = 10 ∨ v = 11 ∨ v = 12 ∨ v = 13 ∨ v = 14 ∨ v = 15 ∨ v = 16 ∨ v = 17 ∨ v = 18 ∨ v = 19 ∨ v = 20 ∨ v = 21 ∨ v = 22 ∨ v = 23 ∨ v = 24 ∨ v = 25 ∨ v = 26 ∨ v = 27 ∨ v = 28 ∨ v = 29 ∨ v = 30 ∨ v = 31 ∨ v = 32 ∨ (v < 0 ∨ 32 < v) := by omega
  rcases tg with g | g | g | g | g | g | g | g | g | g | g | g | g | g | g | g | g | g | g | g | g | g | g | g | g | g | g | g | g | g | g | g | g | g
  · refine J_tab 147 180 vr (D_L_law_0.at 21 rfl) ⟨by omega, by omega⟩ (by rw [g]; rfl) (by decide) ?_
    exact law_at_0 I hc hi T
  · refine J_tab 210 243 vr (D_L_law_0.at 21 rfl) ⟨by omega, by omega⟩ (by rw [g]; rfl) (by decide) ?_
    exact law_at_1 I hc hi T
  · refine J_tab 233 266 vr (D_L_law_0.at 21 rfl) ⟨by omega, by omega⟩ (by rw [g]; rfl) (by decide) ?_
    exact law_at_2 I hc hi T
  · refine J_tab 246 279 vr (D_L_law_0.at 21 rfl) ⟨by omega, by omega⟩ (by rw [g]; rfl) (by decide) ?_
    exact law_at_3 I hc hi T
  · refine J_tab 269 302 vr (D_L_law_0.at 21 rfl) ⟨by omega, by omega⟩ (by rw [g]; rfl) (by decide) ?_
    exact law_at_4 I hc hi T
  · refine J_tab 292 325 vr (D_L_law_0.at 21 rfl) ⟨by omega, by omega⟩ (by rw [g]; rfl) (by decide) ?_
    exact law_at_5 I hc hi T
  · refine J_tab 335 368 vr (D_L_law_0.at 21 rfl) ⟨by omega, by omega⟩ (by rw [g]; rfl) (by decide) ?_
    exact law_at_6 I hc hi T
  · refine J_tab 368 401 vr (D_L_law_0.at 21 rfl) ⟨by omega, by omega⟩ (by rw [g]; rfl) (by decide) ?_
    exact law_at_7 I hc hi T
  · refine J_tab 401 434 vr (D_L_law_0.at 21 rfl) ⟨by omega, by omega⟩ (by rw [g]; rfl) (by decide) ?_
    exact law_at_8 I hc hi T
  · refine J_tab 434 467 vr (D_L_law_0.at 21 rfl) ⟨by omega, by omega⟩ (by rw [g]; rfl) (by decide) ?_
    exact law_at_9 I hc hi T
  · refine J_tab 467 500 vr (D_L_law_0.at 21 rfl) ⟨by omega, by omega⟩ (by rw [g]; rfl) (by decide) ?_
    exact law_at_10 I hc hi T
  · refine J_tab 500 533 vr (D_L_law_0.at 21 rfl) ⟨by omega, by omega⟩ (by rw [g]; rfl) (by decide) ?_
    exact law_at_11 I hc hi T
  · refine J_tab 533 566 vr (D_L_law_0.at 21 rfl) ⟨by omega, by omega⟩ (by rw [g]; rfl) (by decide) ?_
    exact law_at_12 I hc hi T
  · refine J_tab 566 599 vr (D_L_law_0.at 21 rfl) ⟨by omega, by omega⟩ (by rw [g]; rfl) (by decide) ?_
    exact law_at_13 I hc hi T
  · refine J_tab 609 642 vr (D_L_law_0.at 21 rfl) ⟨by omega, by omega⟩ (by rw [g]; rfl) (by decide) ?_
    exact law_at_14 I hc hi T
  · refine J_tab 652 685 vr (D_L_law_0.at 21 rfl) ⟨by omega, by omega⟩ (by rw [g]; rfl) (by decide) ?_
    exact law_at_15 I hc hi T
  · refine J_tab 685 718 vr (D_L_law_0.at 21 rfl) ⟨by omega, by omega⟩ (by rw [g]; rfl) (by decide) ?_
    exact law_at_16 I hc hi T
  · refine J_tab 708 741 vr (D_L_law_0.at 21 rfl) ⟨by omega, by omega⟩ (by rw [g]; rfl) (by decide) ?_
    exact law_at_17 I hc hi T
  · refine J_tab 731 764 vr (D_L_law_0.at 21 rfl) ⟨by omega, by omega⟩ (by rw [g]; rfl) (by decide) ?_
    exact law_at_18 I hc hi T
  · refine J_tab 780 813 vr (D_L_law_0.at 21 rfl) ⟨by omega, by omega⟩ (by rw [g]; rfl) (by decide) ?_
    exact law_at_19 I hc hi T
  · refine J_tab 833 866 vr (D_L_law_0.at 21 rfl) ⟨by omega, by omega⟩ (by rw [g]; rfl) (by decide) ?_
    exact law_at_20 I hc hi T
  · refine J_tab 846 879 vr (D_L_law_0.at 21 rfl) ⟨by omega, by omega⟩ (by rw [g]; rfl) (by decide) ?_
    exact law_at_21 I hc hi T
  · refine J_tab 869 902 vr (D_L_law_0.at 21 rfl) ⟨by omega, by omega⟩ (by rw [g]; rfl) (by decide) ?_
    exact law_at_22 I hc hi T
  · refine J_tab 932 965 vr (D_L_law_0.at 21 rfl) ⟨by omega, by omega⟩ (by rw [g]; rfl) (by decide) ?_
    exact law_at_23 I hc hi T
  · refine J_tab 985 1018 vr (D_L_law_0.at 21 rfl) ⟨by omega, by omega⟩ (by rw [g]; rfl) (by decide) ?_
    exact law_at_24 I hc hi T
  · refine J_tab 1028 1061 vr (D_L_law_0.at 21 rfl) ⟨by omega, by omega⟩ (by rw [g]; rfl) (by decide) ?_
    exact law_at_25 I hc hi T
  · refine J_tab 1041 1074 vr (D_L_law_0.at 21 rfl) ⟨by omega, by omega⟩ (by rw [g]; rfl) (by decide) ?_
    exact law_at_26 I hc hi T
  · refine J_tab 1054 1087 vr (D_L_law_0.at 21 rfl) ⟨by omega, by omega⟩ (by rw [g]; rfl) (by decide) ?_
    exact law_at_27 I hc hi T
  · refine J_tab 1077 1110 vr (D_L_law_0.at 21 rfl) ⟨by omega, by omega⟩ (by rw [g]; rfl) (by decide) ?_
    exact law_at_28 I hc hi T
  · refine J_tab 1091 1124 vr (D_L_law_0.at 21 rfl) ⟨by omega, by omega⟩ (by rw [g]; rfl) (by decide) ?_
    exact law_at_29 I hc hi T
  · refine J_tab 1104 1137 vr (D_L_law_0.at 21 rfl) ⟨by omega, by omega⟩ (by rw [g]; rfl) (by decide) ?_
    exact law_at_30 I hc hi T
  · refine J_tab 1127 1160 vr (D_L_law_0.at 21 rfl) ⟨by omega, by omega⟩ (by rw [g]; rfl) (by decide) ?_
    exact law_at_31 I hc hi T
  · refine J_tab 1140 1173 vr (D_L_law_0.at 21 rfl) ⟨by omega, by omega⟩ (by rw [g]; rfl) (by decide) ?_
    exact law_at_32 I hc hi T
  · refine J_tabO 1196 vr (D_L_law_0.at 21 rfl) g (by decide) ?_
    exact T h (I.up (by omega))
theorem law_18 (hL : sL w ≤ 3072) (TK : ∀ h1, K 1 h1) : ∀ j k : Nat, k + j = 513 → ∀ h : Hp, Inv k h → JG w true m_L_law 100 NT NT 18 [(3, vI (6 * (k : Int))), (2, vR 68), (1, vR 0), (0, vR 2000)] [] h K := by
  intro j
  induction j with
  | zero =>
    intro k e h I
    obtain rfl : k = 513 := e
    refine J_iload_n 19 rfl 3 0 rfl (D_L_law_0.at 10 rfl) ?_
    refine J_aload_n 20 rfl 0 3 rfl ⟨by decide, by decide⟩ (D_L_law_0.at 11 rfl) ?_
    refine J_slen 21 rfl (D_L_law_0.at 12 rfl) ?_
    refine J_bipush 23 rfl ⟨by decide, by decide⟩ (D_L_law_0.at 13 rfl) ?_
    refine J_isub 24 rfl (D_L_law_0.at 14 rfl) ?_
    refine J_icmp_gt 27 rfl 1202 ⟨by omega, by omega⟩ ⟨by omega, by omega⟩ (D_L_law_0.at 15 rfl) (by decide) (fun _ => ?_) (fun c => absurd c (by omega))
    refine J_iconst 1203 rfl (D_L_law_17.at 18 rfl) ?_
    exact J_zret rfl (Or.inr rfl) (D_L_law_17.at 19 rfl) (TK h)
  | succ j ih =>
    intro k e h I
    refine J_iload_n 19 rfl 3 0 rfl (D_L_law_0.at 10 rfl) ?_
    refine J_aload_n 20 rfl 0 3 rfl ⟨by decide, by decide⟩ (D_L_law_0.at 11 rfl) ?_
    refine J_slen 21 rfl (D_L_law_0.at 12 rfl) ?_
    refine J_bipush 23 rfl ⟨by decide, by decide⟩ (D_L_law_0.at 13 rfl) ?_
    refine J_isub 24 rfl (D_L_law_0.at 14 rfl) ?_
    refine J_icmp_gt 27 rfl 1202 ⟨by omega, by omega⟩ ⟨by omega, by omega⟩ (D_L_law_0.at 15 rfl) (by decide) (fun _ => ?_) (fun c => ?_)
    · refine J_iconst 1203 rfl (D_L_law_17.at 18 rfl) ?_
      exact J_zret rfl (Or.inr rfl) (D_L_law_17.at 19 rfl) (TK h)
    · refine law_27 I (by omega) ⟨by omega, by omega⟩ (fun h1 I1 => ?_)
      refine J_iinc (v := 6 * ((k + 1 : Nat) : Int)) (lv' := [(3, vI (6 * ((k + 1 : Nat) : Int))), (2, vR 68), (1, vR 0), (0, vR 2000)]) 1199 rfl 3 0 6 rfl (by omega) (by decide) rfl (D_L_law_17.at 16 rfl) ?_
      refine J_goto 18 (D_L_law_17.at 17 rfl) (by decide) ?_
      exact ih (k + 1) (by omega) h1 (by rw [show ((k + 1 : Nat) : Int) = (k : Int) + 1 by omega]; exact I1)
theorem law_0 {h : Hp} (hL : sL w ≤ 3072) (TK : ∀ h1, K 1 h1) : JG w false m_L_law 100 NT 0 0 [(0, vR 2000)] [] h K := by
  show JG w false m_L_law 100 NT 0 0 [(0, vR 2000)] [] (ap [] h) K
  refine A_new (n2 := 1) (ov := 0) 3 rfl 11 rfl rfl rfl kl_11 df_11 cl_L_7 inst_11 ini_11 ob_0 (by decide +kernel) (by decide +kernel) (D_L_law_0.at 0 rfl) ?_
  refine J_dup 4 rfl rfl (D_L_law_0.at 1 rfl) ?_
  refine A_callI (M' := m_X11_init) (d' := 3) (n' := 68) (as := []) (st := [vR 0]) (o := 0) 7 rfl U_X11_init_0 ok_X11_init im_X11_init ⟨rfl, rfl⟩ ml_L_9 ob_0 rfl (by decide) ⟨by decide, by decide +kernel⟩ (by decide) (D_L_law_0.at 2 rfl) (fun K1 T1 => kc_X11_init_0 T1) ?_
  refine J_astore_n (lv' := [(1, vR 0), (0, vR 2000)]) 8 rfl 1 ⟨by decide, by decide⟩ (by decide) rfl (D_L_law_0.at 3 rfl) ?_
  refine A_new (n2 := 69) (ov := 68) 11 rfl 12 rfl rfl rfl kl_12 df_12 cl_L_10 inst_12 ini_12 ob_68 (by decide +kernel) (by decide +kernel) (D_L_law_0.at 4 rfl) ?_
  refine J_dup 12 rfl rfl (D_L_law_0.at 5 rfl) ?_
  refine A_callI (M' := m_X12_init) (d' := 1) (n' := 137) (as := []) (st := [vR 68]) (o := 68) 15 rfl U_X12_init_68 ok_X12_init im_X12_init ⟨rfl, rfl⟩ ml_L_12 ob_68 rfl (by decide) ⟨by decide, by decide +kernel⟩ (by decide) (D_L_law_0.at 6 rfl) (fun K1 T1 => kc_X12_init_68 T1) ?_
  refine J_astore_n (lv' := [(2, vR 68), (1, vR 0), (0, vR 2000)]) 16 rfl 2 ⟨by decide, by decide⟩ (by decide) rfl (D_L_law_0.at 7 rfl) ?_
  show JG w false m_L_law 100 NT NT 16 [(2, vR 68), (1, vR 0), (0, vR 2000)] [] (ap U_law h) K
  refine J_freeze rfl froz_law ?_
  refine J_iconst 17 rfl (D_L_law_0.at 8 rfl) ?_
  refine J_istore_n (lv' := [(3, vI 0), (2, vR 68), (1, vR 0), (0, vR 2000)]) 18 rfl 3 (by decide) rfl (D_L_law_0.at 9 rfl) ?_
  exact law_18 hL TK 513 0 rfl _ inv_fresh
end L6D
