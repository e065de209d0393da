/-! the reference reads a name -/
theorem wr_0 : wr 1000 71 := ⟨⟨by decide, by decide +kernel⟩, by decide +kernel, by decide +kernel⟩
theorem wr_1 : wr 1001 72 := ⟨⟨by decide, by decide +kernel⟩, by decide +kernel, by decide +kernel⟩
theorem wr_2 : wr 1002 73 := ⟨⟨by decide, by decide +kernel⟩, by decide +kernel, by decide +kernel⟩
theorem wr_3 : wr 1003 74 := ⟨⟨by decide, by decide +kernel⟩, by decide +kernel, by decide +kernel⟩
theorem wr_5 : wr 1005 75 := ⟨⟨by decide, by decide +kernel⟩, by decide +kernel, by decide +kernel⟩
theorem wr_6 : wr 1006 76 := ⟨⟨by decide, by decide +kernel⟩, by decide +kernel, by decide +kernel⟩
theorem wr_7 : wr 1007 77 := ⟨⟨by decide, by decide +kernel⟩, by decide +kernel, by decide +kernel⟩
theorem wr_8 : wr 1008 78 := ⟨⟨by decide, by decide +kernel⟩, by decide +kernel, by decide +kernel⟩
theorem wr_10 : wr 1010 80 := ⟨⟨by decide, by decide +kernel⟩, by decide +kernel, by decide +kernel⟩
theorem wr_22 : wr 1022 81 := ⟨⟨by decide, by decide +kernel⟩, by decide +kernel, by decide +kernel⟩
theorem wr_23 : wr 1023 82 := ⟨⟨by decide, by decide +kernel⟩, by decide +kernel, by decide +kernel⟩
theorem wr_24 : wr 1024 83 := ⟨⟨by decide, by decide +kernel⟩, by decide +kernel, by decide +kernel⟩
theorem wr_25 : wr 1025 84 := ⟨⟨by decide, by decide +kernel⟩, by decide +kernel, by decide +kernel⟩
theorem hv_cg {l l' : Nat → Int} : ∀ n : Nat, (∀ k : Nat, k < n → l k = l' k) → hv l n = hv l' n
  | 0, _ => rfl
  | n + 1, h => by
    show 27 * hv l n + l n = 27 * hv l' n + l' n
    rw [hv_cg n (fun k hk => h k (by omega)), h n (by omega)]
section L3P
variable {w : Wd} {h h0 : Hp} {K : Int → Hp → Prop} {t : Int → Int} {L p : Nat}
theorem y_isOwn (Y : YS t L h p) (hs : sk t L p = p) (k1 : (∃ a ∈ ows, wI t L p a) → ∀ h1, Fr h h1 tyL [] → YS t L h1 p → K 1 h1) (k0 : (∀ a ∈ ows, ¬ wI t L p a) → ∀ h1, Fr h h1 tyL [] → YS t L h1 p → K 0 h1) : C_X12_isOwnHere w h K := by
  have e272 : ∀ a ∈ ows, wI t L p a → ∀ h1, Fr h h1 tyL [] → YS t L h1 p → L_X12_isOwnHere_272 w h1 K := fun a ha W h1 F1 Y1 => l_X12_isOwnHere_272 (k1 ⟨a, ha, W⟩ h1 F1 Y1)
  have e218 : ∀ a ∈ ows, wI t L p a → ∀ h1, Fr h h1 tyL [] → YS t L h1 p → L_X12_isOwnHere_218 w h1 K := fun a ha W h1 F1 Y1 => l_X12_isOwnHere_218 (e272 a ha W h1 F1 Y1)
  have e142 : ∀ a ∈ ows, wI t L p a → ∀ h1, Fr h h1 tyL [] → YS t L h1 p → L_X12_isOwnHere_142 w h1 K := fun a ha W h1 F1 Y1 => l_X12_isOwnHere_142 (e218 a ha W h1 F1 Y1)
  have e66 : ∀ a ∈ ows, wI t L p a → ∀ h1, Fr h h1 tyL [] → YS t L h1 p → L_X12_isOwnHere_66 w h1 K := fun a ha W h1 F1 Y1 => l_X12_isOwnHere_66 (e142 a ha W h1 F1 Y1)
  refine c_X12_isOwnHere ?_
  refine y_wdHere wr_0 Y (fun u h1 G1 Y1 _ => ⟨fun _ => e66 1000 (by decide) (by rw [hs] at u; exact u) h1 G1 (by rw [hs] at Y1; exact Y1), fun c => absurd (by decide) c⟩) (fun u1 h1 G1 Y1 _ => ⟨fun c => absurd rfl c, fun _ => ?_⟩)
  rw [hs] at u1 Y1
  have F1 : Fr h h1 tyL [] := G1
  refine y_wdHere wr_1 Y1 (fun u h2 G2 Y2 _ => ⟨fun _ => e66 1001 (by decide) (by rw [hs] at u; exact u) h2 ((F1.trans G2).into (by decide)) (by rw [hs] at Y2; exact Y2), fun c => absurd (by decide) c⟩) (fun u2 h2 G2 Y2 _ => ⟨fun c => absurd rfl c, fun _ => ?_⟩)
  rw [hs] at u2 Y2
  have F2 : Fr h h2 tyL [] := ((F1.trans G2).into (by decide))
  refine y_wdHere wr_2 Y2 (fun u h3 G3 Y3 _ => ⟨fun _ => e66 1002 (by decide) (by rw [hs] at u; exact u) h3 ((F2.trans G3).into (by decide)) (by rw [hs] at Y3; exact Y3), fun c => absurd (by decide) c⟩) (fun u3 h3 G3 Y3 _ => ⟨fun c => absurd rfl c, fun _ => ?_⟩)
  rw [hs] at u3 Y3
  have F3 : Fr h h3 tyL [] := ((F2.trans G3).into (by decide))
  refine y_wdHere wr_3 Y3 (fun u h4 G4 Y4 _ => ⟨fun _ => e66 1003 (by decide) (by rw [hs] at u; exact u) h4 ((F3.trans G4).into (by decide)) (by rw [hs] at Y4; exact Y4), fun c => absurd (by decide) c⟩) (fun u4 h4 G4 Y4 _ => ⟨fun c => absurd rfl c, fun _ => ?_⟩)
  rw [hs] at u4 Y4
  have F4 : Fr h h4 tyL [] := ((F3.trans G4).into (by decide))
  refine y_wdHere wr_5 Y4 (fun u h5 G5 Y5 _ => ⟨fun _ => e66 1005 (by decide) (by rw [hs] at u; exact u) h5 ((F4.trans G5).into (by decide)) (by rw [hs] at Y5; exact Y5), fun c => absurd (by decide) c⟩) (fun u5 h5 G5 Y5 _ => ⟨fun c => absurd rfl c, fun _ => ?_⟩)
  rw [hs] at u5 Y5
  have F5 : Fr h h5 tyL [] := ((F4.trans G5).into (by decide))
  refine y_wdHere wr_6 Y5 (fun u h6 G6 Y6 _ => ⟨fun c => absurd c (by decide), fun _ => e66 1006 (by decide) (by rw [hs] at u; exact u) h6 ((F5.trans G6).into (by decide)) (by rw [hs] at Y6; exact Y6)⟩) (fun u6 h6 G6 Y6 _ => ⟨fun _ => ?_, fun c => absurd rfl c⟩)
  rw [hs] at u6 Y6
  have F6 : Fr h h6 tyL [] := ((F5.trans G6).into (by decide))
  refine y_wdHere wr_7 Y6 (fun u h7 G7 Y7 _ => ⟨fun _ => e142 1007 (by decide) (by rw [hs] at u; exact u) h7 ((F6.trans G7).into (by decide)) (by rw [hs] at Y7; exact Y7), fun c => absurd (by decide) c⟩) (fun u7 h7 G7 Y7 _ => ⟨fun c => absurd rfl c, fun _ => ?_⟩)
  rw [hs] at u7 Y7
  have F7 : Fr h h7 tyL [] := ((F6.trans G7).into (by decide))
  refine y_wdHere wr_8 Y7 (fun u h8 G8 Y8 _ => ⟨fun _ => e142 1008 (by decide) (by rw [hs] at u; exact u) h8 ((F7.trans G8).into (by decide)) (by rw [hs] at Y8; exact Y8), fun c => absurd (by decide) c⟩) (fun u8 h8 G8 Y8 _ => ⟨fun c => absurd rfl c, fun _ => ?_⟩)
  rw [hs] at u8 Y8
  have F8 : Fr h h8 tyL [] := ((F7.trans G8).into (by decide))
  refine y_wdHere wr_9 Y8 (fun u h9 G9 Y9 _ => ⟨fun _ => e142 1009 (by decide) (by rw [hs] at u; exact u) h9 ((F8.trans G9).into (by decide)) (by rw [hs] at Y9; exact Y9), fun c => absurd (by decide) c⟩) (fun u9 h9 G9 Y9 _ => ⟨fun c => absurd rfl c, fun _ => ?_⟩)
  rw [hs] at u9 Y9
  have F9 : Fr h h9 tyL [] := ((F8.trans G9).into (by decide))
  refine y_wdHere wr_10 Y9 (fun u h10 G10 Y10 _ => ⟨fun _ => e142 1010 (by decide) (by rw [hs] at u; exact u) h10 ((F9.trans G10).into (by decide)) (by rw [hs] at Y10; exact Y10), fun c => absurd (by decide) c⟩) (fun u10 h10 G10 Y10 _ => ⟨fun c => absurd rfl c, fun _ => ?_⟩)
  rw [hs] at u10 Y10
  have F10 : Fr h h10 tyL [] := ((F9.trans G10).into (by decide))
  refine y_wdHere wr_22 Y10 (fun u h11 G11 Y11 _ => ⟨fun _ => e142 1022 (by decide) (by rw [hs] at u; exact u) h11 ((F10.trans G11).into (by decide)) (by rw [hs] at Y11; exact Y11), fun c => absurd (by decide) c⟩) (fun u11 h11 G11 Y11 _ => ⟨fun c => absurd rfl c, fun _ => ?_⟩)
  rw [hs] at u11 Y11
  have F11 : Fr h h11 tyL [] := ((F10.trans G11).into (by decide))
  refine y_wdHere wr_23 Y11 (fun u h12 G12 Y12 _ => ⟨fun c => absurd c (by decide), fun _ => e142 1023 (by decide) (by rw [hs] at u; exact u) h12 ((F11.trans G12).into (by decide)) (by rw [hs] at Y12; exact Y12)⟩) (fun u12 h12 G12 Y12 _ => ⟨fun _ => ?_, fun c => absurd rfl c⟩)
  rw [hs] at u12 Y12
  have F12 : Fr h h12 tyL [] := ((F11.trans G12).into (by decide))
  refine y_wdHere wr_24 Y12 (fun u h13 G13 Y13 _ => ⟨fun _ => e218 1024 (by decide) (by rw [hs] at u; exact u) h13 ((F12.trans G13).into (by decide)) (by rw [hs] at Y13; exact Y13), fun c => absurd (by decide) c⟩) (fun u13 h13 G13 Y13 _ => ⟨fun c => absurd rfl c, fun _ => ?_⟩)
  rw [hs] at u13 Y13
  have F13 : Fr h h13 tyL [] := ((F12.trans G13).into (by decide))
  refine y_wdHere wr_25 Y13 (fun u h14 G14 Y14 _ => ⟨fun _ => e218 1025 (by decide) (by rw [hs] at u; exact u) h14 ((F13.trans G14).into (by decide)) (by rw [hs] at Y14; exact Y14), fun c => absurd (by decide) c⟩) (fun u14 h14 G14 Y14 _ => ⟨fun c => absurd rfl c, fun _ => ?_⟩)
  rw [hs] at u14 Y14
  have F14 : Fr h h14 tyL [] := ((F13.trans G14).into (by decide))
  refine y_wdHere wr_13 Y14 (fun u h15 G15 Y15 _ => ⟨fun _ => e218 1013 (by decide) (by rw [hs] at u; exact u) h15 ((F14.trans G15).into (by decide)) (by rw [hs] at Y15; exact Y15), fun c => absurd (by decide) c⟩) (fun u15 h15 G15 Y15 _ => ⟨fun c => absurd rfl c, fun _ => ?_⟩)
  rw [hs] at u15 Y15
  have F15 : Fr h h15 tyL [] := ((F14.trans G15).into (by decide))
  refine y_wdHere wr_17 Y15 (fun u h16 G16 Y16 _ => ⟨fun _ => e218 1017 (by decide) (by rw [hs] at u; exact u) h16 ((F15.trans G16).into (by decide)) (by rw [hs] at Y16; exact Y16), fun c => absurd (by decide) c⟩) (fun u16 h16 G16 Y16 _ => ⟨fun c => absurd rfl c, fun _ => ?_⟩)
  rw [hs] at u16 Y16
  have F16 : Fr h h16 tyL [] := ((F15.trans G16).into (by decide))
  refine y_wdHere wr_18 Y16 (fun u h17 G17 Y17 _ => ⟨fun _ => e218 1018 (by decide) (by rw [hs] at u; exact u) h17 ((F16.trans G17).into (by decide)) (by rw [hs] at Y17; exact Y17), fun c => absurd (by decide) c⟩) (fun u17 h17 G17 Y17 _ => ⟨fun c => absurd rfl c, fun _ => ?_⟩)
  rw [hs] at u17 Y17
  have F17 : Fr h h17 tyL [] := ((F16.trans G17).into (by decide))
  refine y_wdHere wr_19 Y17 (fun u h18 G18 Y18 _ => ⟨fun c => absurd c (by decide), fun _ => e218 1019 (by decide) (by rw [hs] at u; exact u) h18 ((F17.trans G18).into (by decide)) (by rw [hs] at Y18; exact Y18)⟩) (fun u18 h18 G18 Y18 _ => ⟨fun _ => ?_, fun c => absurd rfl c⟩)
  rw [hs] at u18 Y18
  have F18 : Fr h h18 tyL [] := ((F17.trans G18).into (by decide))
  refine y_wdHere wr_20 Y18 (fun u h19 G19 Y19 _ => ⟨fun _ => e272 1020 (by decide) (by rw [hs] at u; exact u) h19 ((F18.trans G19).into (by decide)) (by rw [hs] at Y19; exact Y19), fun c => absurd (by decide) c⟩) (fun u19 h19 G19 Y19 _ => ⟨fun c => absurd rfl c, fun _ => ?_⟩)
  rw [hs] at u19 Y19
  have F19 : Fr h h19 tyL [] := ((F18.trans G19).into (by decide))
  refine y_wdHere wr_21 Y19 (fun u h20 G20 Y20 _ => ⟨fun _ => e272 1021 (by decide) (by rw [hs] at u; exact u) h20 ((F19.trans G20).into (by decide)) (by rw [hs] at Y20; exact Y20), fun c => absurd (by decide) c⟩) (fun u20 h20 G20 Y20 _ => ⟨fun c => absurd rfl c, fun _ => ?_⟩)
  rw [hs] at u20 Y20
  have F20 : Fr h h20 tyL [] := ((F19.trans G20).into (by decide))
  refine y_wdHere wr_11 Y20 (fun u h21 G21 Y21 _ => ⟨fun _ => e272 1011 (by decide) (by rw [hs] at u; exact u) h21 ((F20.trans G21).into (by decide)) (by rw [hs] at Y21; exact Y21), fun c => absurd (by decide) c⟩) (fun u21 h21 G21 Y21 _ => ⟨fun c => absurd rfl c, fun _ => ?_⟩)
  rw [hs] at u21 Y21
  have F21 : Fr h h21 tyL [] := ((F20.trans G21).into (by decide))
  refine y_wdHere wr_12 Y21 (fun u h22 G22 Y22 _ => ⟨fun c => absurd c (by decide), fun _ => e272 1012 (by decide) (by rw [hs] at u; exact u) h22 ((F21.trans G22).into (by decide)) (by rw [hs] at Y22; exact Y22)⟩) (fun u22 h22 G22 Y22 _ => ⟨fun _ => ?_, fun c => absurd rfl c⟩)
  rw [hs] at u22 Y22
  have F22 : Fr h h22 tyL [] := ((F21.trans G22).into (by decide))
  refine k0 (fun a ha => ?_) h22 F22 Y22
  simp only [List.mem_cons, List.not_mem_nil, or_false] at ha
  rcases ha with rfl | rfl | rfl | rfl | rfl | rfl | rfl | rfl | rfl | rfl | rfl | rfl | rfl | rfl | rfl | rfl | rfl | rfl | rfl | rfl | rfl | rfl <;> assumption
theorem yb_name {kd pl : Int} (B : YB t L h kd pl) (k : K 0 h) : C_X12_name w h K :=
  c_X12_name ⟨B.nz.1, fun c => absurd c B.nz.2, fun _ => k⟩
abbrev tnL : List (Int × Int) := [(68, 2), (68, 4), (68, 5), (68, 6), (68, 32)]
theorem y_name (Y : YS t L h p) (hg : isLt (byL t L (sk t L p)) → ¬ GL t (sk t L p)) (k1 : ∀ n, NAn t L (sk t L p) n → ∀ h1, Fr h h1 tnL [] → YS t L h1 (sk t L p + n) → h1 68 32 = sk t L p → K (hv (nml t (sk t L p) n) n) h1) (k0 : ∀ kd pl, NAf t L (sk t L p) kd pl → ∀ h1, Fr h h1 tnL [] → YB t L h1 kd pl → K 0 h1) : C_X12_name w h K := by
  refine c_X12_name ⟨Y.z.1, fun _ => Y.look (fun h3 F3 Y3 => ?_), fun c => absurd Y.z.2 c⟩
  have ss := sk_sk t L p
  generalize sk t L p = q at F3 Y3 k1 k0 hg ss ⊢
  have b := byL_q Y3.1 q
  have l1 := Y3.2.2.1
  have l2 := Y3.1.2.1
  have e2 := Y3.2.1
  have bad : ∀ {c : Int}, NAf t L q 1 q → ∀ h', YS t L h' q → Fr h h' tnL [] → C_X12_fail w 1 (h' 68 2) h' (fun _ h7 => K 0 h7) := fun {c} N h' Y' F' => by
    rw [Y'.2.1]
    exact Y'.fail ⟨by decide, by decide⟩ (fun h5 F5 B5 => k0 1 q N h5 ((F'.trans F5).into (by decide)) B5)
  have F3' : Fr h h3 tnL [] := F3.into (by decide)
  refine ⟨⟨by omega, by omega⟩, fun c => bad (c := 0) ⟨rfl, Or.inl ⟨rfl, fun x => by omega⟩⟩ h3 Y3 F3', fun c => ⟨⟨by omega, by omega⟩, fun c2 => bad (c := 0) ⟨rfl, Or.inl ⟨rfl, fun x => by omega⟩⟩ h3 Y3 F3', fun c2 => ?_⟩⟩
  have lq : isLt (byL t L q) := ⟨by omega, by omega⟩
  have g := hg lq
  have ltq : q < L := byL_lt (t := t) rfl (by omega)
  have E3 := Y3.2.2.2.2
  refine ⟨by rw [e2]; exact ⟨by omega, by omega⟩, by have := E3.1.1; exact ⟨by omega, by omega⟩, fun c3 => absurd (E3.1.2.mp (by omega)) g, fun _ => ?_⟩
  refine y_isOwn Y3 ss (fun own h4 F4 Y4 _ => ⟨fun c => absurd c (by decide), fun _ => bad (c := 0) ⟨rfl, Or.inr (Or.inr ⟨rfl, own⟩)⟩ h4 Y4 ((F3'.trans F4).into (by decide))⟩) (fun none h4 F4 Y4 _ => ⟨fun _ h21 q21 => ?_, fun c => absurd rfl c⟩)
  have F21 : Fr h4 h21 [(68, 32)] [] := by rw [q21]; exact Fr.cel
  have Y21 := Y4.fr F21 (by decide)
  have G21 : Fr h h21 tnL [] := ((F3'.trans F4).trans F21).into (by decide)
  have e32 : h21 68 32 = q := by rw [q21, hu_if, if_pos rfl]; exact Y4.2.1
  -- the letters
  have fin : ∀ (n : Nat) h', n ≤ 6 → 1 ≤ n → q + n ≤ L → (∀ i : Nat, i < n → isLt (t (q + i : Nat))) → ¬ isLt (byL t L (q + n)) → TQ t L h' → h' 68 2 = (q + n : Nat) → h' 68 5 = 0 → h' 68 32 = q → Fr h h' tnL [] → ∀ h33 : Hp, h33 = hu h' 68 4 (h' 68 2) → K (hv (nml t q n) n) h33 := by
    intro n h' n6 n1 nL V nl T' e2' e5' e32' F' h33 q33
    have F33 : Fr h' h33 [(68, 4)] [] := by rw [q33]; exact Fr.cel
    have cc := (F33.cell (C := [(68, 2), (68, 5), (68, 32)]) (W := []) (by decide)).1
    have c2 := cc (68, 2) (by decide)
    have c5 := cc (68, 5) (by decide)
    have c32 := cc (68, 32) (by decide)
    dsimp only at c2 c5 c32
    have v := V (n - 1) (by omega)
    have e4 : h33 68 4 = (q + n : Nat) := by rw [q33, hu_if, if_pos rfl, e2']
    refine k1 n ⟨n1, n6, nL, V, nl, none⟩ h33 ((F'.trans F33).into (by decide)) ⟨T'.fr F33 (by decide), by rw [c2]; exact e2', nL, by rw [c5]; exact e5', ?_, by rw [e4]; omega⟩ (by rw [c32]; exact e32')
    rw [e4]
    refine ⟨Int.le_refl _, fun _ => ⟨by omega, Or.inl ?_⟩, fun _ => rfl⟩
    rw [show q + n - 1 = q + (n - 1) by omega]
    exact v
  suffices ∀ j n : Nat, n + j = 7 → ∀ h', q + n ≤ L → n ≤ 6 → (∀ i : Nat, i < n → isLt (t (q + i : Nat))) → TQ t L h' → h' 68 2 = (q + n : Nat) → h' 68 5 = 0 → h' 68 32 = q → Fr h h' tnL [] → L_X12_name_58 w (hv (nml t q n) n) h' K from this 7 0 rfl h21 l1 (by decide) (fun i hi => absurd hi (Nat.not_lt_zero _)) Y21.1 Y21.2.1 Y21.2.2.2.1 e32 G21
  intro j
  induction j with
  | zero => intro n e h' _ n6; omega
  | succ j ih =>
    intro n e h' nL n6 V T' e2' e5' e32' F'
    have e3' := T'.1
    have done : ¬ isLt (byL t L (q + n)) → ∀ h33 : Hp, h33 = hu h' 68 4 (h' 68 2) → K (hv (nml t q n) n) h33 := fun nl => by
      have n1 : 1 ≤ n := by
        rcases Nat.eq_zero_or_pos n with d | d
        · rw [d] at nl; exact absurd lq nl
        · exact d
      exact fin n h' n6 n1 nL V nl T' e2' e5' e32' F'
    refine l_X12_name_58 ⟨by rw [e2']; exact ⟨by omega, by omega⟩, by rw [e3']; exact ⟨by omega, by omega⟩, fun c => ?_, fun c => ?_⟩
    · refine done (fun x => ?_)
      have := byL_lt (t := t) (L := L) (s := q + n) rfl (by omega)
      omega
    · rw [e2', e3'] at c
      have lt : q + n < L := by omega
      have tv := T'.2.2.1 (q + n) lt
      have eb := byL_in (t := t) lt
      rw [e2', tv.2]
      refine ⟨⟨by omega, by omega⟩, ⟨by omega, by omega⟩, fun g => by rw [← e2']; exact done (fun x => by omega), fun g => ⟨⟨by omega, by omega⟩, fun g2 => by rw [← e2']; exact done (fun x => by omega), fun g2 => ?_⟩⟩
      rw [e32']
      refine ⟨⟨by omega, by omega⟩, fun g3 => ⟨⟨by omega, by omega⟩, ⟨by omega, by omega⟩, fun h45 q45 => ?_⟩, fun g3 => ?_⟩
      · have F45 : Fr h' h45 [(68, 2)] [] := by rw [q45]; exact Fr.cel
        have cc := (F45.cell (C := [(68, 5), (68, 32)]) (W := []) (by decide)).1
        have c5 := cc (68, 5) (by decide)
        have c32 := cc (68, 32) (by decide)
        dsimp only at c5 c32
        have ev : 27 * hv (nml t q n) n + t (q + n : Nat) - 97 + 1 = hv (nml t q (n + 1)) (n + 1) := by
          show _ = 27 * hv (nml t q (n + 1)) n + nml t q (n + 1) n
          have a1 : nml t q (n + 1) n = t (q + n : Nat) - 96 := if_pos (by omega)
          have a2 : hv (nml t q (n + 1)) n = hv (nml t q n) n := hv_cg n (fun k hk => by unfold nml; rw [if_pos (by omega), if_pos hk])
          rw [a1, a2]; omega
        rw [ev]
        refine ih (n + 1) (by omega) h45 lt (by omega) (fun i hi => ?_) (T'.fr F45 (by decide)) (by rw [q45, hu_if, if_pos rfl]; omega) (by rw [c5]; exact e5') (by rw [c32]; exact e32') ((F'.trans F45).into (by decide))
        by_cases d : i = n
        · subst d; exact ⟨by omega, by omega⟩
        · exact V i (by omega)
      · obtain rfl : n = 6 := by omega
        refine y_fail T' e5' ⟨by rw [e2']; omega, by rw [e2']; omega⟩ ⟨by decide, by decide⟩ (fun h5 F5 B5 => k0 1 _ ⟨rfl, Or.inr (Or.inl ⟨rfl, fun i hi => ?_⟩)⟩ h5 ((F'.trans F5).into (by decide)) B5)
        by_cases d : i = 6
        · subst d; exact ⟨lt, by omega, by omega⟩
        · exact ⟨by omega, V i (by omega)⟩
end L3P
