/-! pairs: feed, image -/
section L2g
variable {w : Wd} {c : Int} {h h0 : Hp} {K : Int → Hp → Prop} {g : Int → Int}
theorem bm_b (z : Int) : -128 ≤ Int.bmod z 256 ∧ Int.bmod z 256 < 128 ∧ Int.bmod z 256 % 256 = z % 256 := by
  unfold Int.bmod
  dsimp only
  split <;> omega
theorem x_app1 {v s L : Int} (hs : 0 ≤ s ∧ s < 32) (hv : inR v) (hL : h 1 1 = L) (hb : 0 ≤ L ∧ L < 1600) (k : ∀ h1, Fr h h1 [(1, 1)] [2] → h1 1 1 = L + 1 → (∀ i : Int, h1 2 i = if i = L then Int.bmod (v / 2 ^ (Int.toNat s)) 256 else h 2 i) → L_X10_append_3 w v (s + (-8)) h1 K) : L_X10_append_3 w v s h K := by
  have bm := bm_b (v / 2 ^ (Int.toNat s))
  refine l_X10_append_3 ?_
  rw [hL]
  refine ⟨⟨by omega, by omega⟩, fun q => absurd q (by omega), fun _ => ⟨⟨by omega, by omega⟩, fun q => absurd q (by omega), fun _ => ⟨hv, hs, hb, ⟨bm.1, bm.2.1⟩, fun h7 q7 h9 q9 => ?_⟩⟩⟩
  have F7 : Fr h h7 [] [2] := by rw [q7]; exact Fr.row
  have F9 : Fr h7 h9 [(1, 1)] [] := by rw [q9]; exact Fr.cel
  refine k h9 ((F7.trans F9).into (by decide)) (by rw [q9, hu_if, if_pos rfl, hu_row q7 (by decide), hL]) (fun i => ?_)
  rw [hu_row q9 (by decide), q7, hu_if]
/-- byte j of a word, from the highest on -/
def byP (v j : Int) : Int := v / 2 ^ (Int.toNat (8 * (3 - j)))
theorem x_append {v L : Int} (hv : inR v) (hL : h 1 1 = L) (hb : 0 ≤ L ∧ L + 4 ≤ 1600) (k : ∀ h1, Fr h h1 [(1, 1)] [2] → h1 1 1 = L + 4 → (∀ i : Int, h1 2 i = if L ≤ i ∧ i < L + 4 then Int.bmod (byP v (i - L)) 256 else h 2 i) → K 0 h1) : C_X10_append w v h K := by
  refine c_X10_append (x_app1 ⟨by decide, by decide⟩ hv hL ⟨by omega, by omega⟩ (fun h1 F1 e1 V1 => x_app1 (s := 16) ⟨by decide, by decide⟩ hv e1 ⟨by omega, by omega⟩ (fun h2 F2 e2 V2 => x_app1 (s := 8) ⟨by decide, by decide⟩ hv e2 ⟨by omega, by omega⟩ (fun h3 F3 e3 V3 => x_app1 (s := 0) ⟨by decide, by decide⟩ hv e3 ⟨by omega, by omega⟩ (fun h4 F4 e4 V4 => l_X10_append_3 ⟨⟨by decide, by decide⟩, fun _ => ?_, fun q => absurd (show (0 : Int) + -8 < 0 by decide) q⟩)))))
  refine k h4 ((F1.trans (F2.trans (F3.trans F4))).into (by decide)) (by omega) (fun i => ?_)
  rw [V4, V3, V2, V1]
  by_cases d : L ≤ i ∧ i < L + 4
  · rw [if_pos d]
    unfold byP
    rcases (show i = L ∨ i = L + 1 ∨ i = L + 2 ∨ i = L + 3 by omega) with e | e | e | e
    · rw [if_neg (by omega), if_neg (by omega), if_neg (by omega), if_pos e, show 8 * (3 - (i - L)) = 24 by omega]
    · rw [if_neg (by omega), if_neg (by omega), if_pos e, show 8 * (3 - (i - L)) = 16 by omega]
    · rw [if_neg (by omega), if_pos (by omega), show 8 * (3 - (i - L)) = 8 by omega]
    · rw [if_pos (by omega), show 8 * (3 - (i - L)) = 0 by omega]
  · rw [if_neg d, if_neg (by omega), if_neg (by omega), if_neg (by omega), if_neg (by omega)]
def wdP (a b c d e : Int) (i : Int) : Int := if i < 4 then a else if i < 8 then b else if i < 12 then c else if i < 16 then d else e
theorem q_feed (I : Inv c h) {v1 v2 v3 v4 v5 : Int} (r1 : inR v1) (r2 : inR v2) (r3 : inR v3) (r4 : inR v4) (r5 : inR v5) : C_X11_feed w v1 v2 v3 v4 v5 h (fun z h1 => inR z ∧ C_X12_feed w v1 v2 v3 v4 v5 h1 (PI c z)) := by
  obtain ⟨t1, t2, t3, t4⟩ := id I.1.1
  refine c_X11_feed ?_
  rw [t1]
  refine ⟨⟨by omega, by omega⟩, fun q => ?_, fun q => ?_⟩
  · refine x_append r1 t1 ⟨by omega, by omega⟩ (fun h3 F3 e3 V3 => x_append r2 e3 ⟨by omega, by omega⟩ (fun h6 F6 e6 V6 => x_append r3 e6 ⟨by omega, by omega⟩ (fun h9 F9 e9 V9 => x_append r4 e9 ⟨by omega, by omega⟩ (fun h12 F12 e12 V12 => x_append r5 e12 ⟨by omega, by omega⟩ (fun h15 F15 e15 V15 => ?_)))))
    have F1 : Fr h h15 [(1, 1)] [2] := (F3.trans (F6.trans (F9.trans (F12.trans F15)))).into (by decide)
    obtain ⟨L, hL⟩ : ∃ L, L = h 68 1 := ⟨_, rfl⟩
    rw [← hL] at t1 t2 t3 e3 e6 e9 e12 e15 V3 V6 V9 V12 V15 q
    have W : ∀ i : Int, h15 2 i = if L ≤ i ∧ i < L + 20 then Int.bmod (byP (wdP v1 v2 v3 v4 v5 (i - L)) ((i - L) % 4)) 256 else h 2 i := fun i => by
      rw [V15, V12, V9, V6, V3]
      by_cases d : L ≤ i ∧ i < L + 20
      · rw [if_pos d]
        unfold wdP
        by_cases d1 : i - L < 4
        · rw [if_pos d1, if_neg (by omega), if_neg (by omega), if_neg (by omega), if_neg (by omega), if_pos (by omega), show (i - L) % 4 = i - L by omega]
        · rw [if_neg d1]
          by_cases d2 : i - L < 8
          · rw [if_pos d2, if_neg (by omega), if_neg (by omega), if_neg (by omega), if_pos (by omega), show (i - L) % 4 = i - (L + 4) by omega]
          · rw [if_neg d2]
            by_cases d3 : i - L < 12
            · rw [if_pos d3, if_neg (by omega), if_neg (by omega), if_pos (by omega), show (i - L) % 4 = i - (L + 4 + 4) by omega]
            · rw [if_neg d3]
              by_cases d4 : i - L < 16
              · rw [if_pos d4, if_neg (by omega), if_pos (by omega), show (i - L) % 4 = i - (L + 4 + 4 + 4) by omega]
              · rw [if_neg d4, if_pos (by omega), show (i - L) % 4 = i - (L + 4 + 4 + 4 + 4) by omega]
      · rw [if_neg d, if_neg (by omega), if_neg (by omega), if_neg (by omega), if_neg (by omega), if_neg (by omega)]
    have e15' : h15 1 1 = L + 20 := by omega
    rw [e15']
    refine ⟨⟨by omega, by omega⟩, c_X12_feed ?_⟩
    have l1 : h15 68 1 = L := by rw [hL]; exact (F1.cell (C := [(68, 1)]) (W := []) (by decide)).1 (68, 1) (by decide)
    have r69 : h15 69 = h 69 := (F1.cell (C := []) (W := [69]) (by decide)).2 69 (by decide)
    rw [l1]
    refine ⟨⟨by omega, by omega⟩, fun _ => ?_, fun q2 => absurd q q2⟩
    suffices ∀ j n : Nat, n + j = 20 → ∀ h', Fr h15 h' [(68, 1)] [69] → h' 68 1 = L + n → (∀ i : Int, h' 69 i = if L ≤ i ∧ i < L + n then byP (wdP v1 v2 v3 v4 v5 (i - L)) ((i - L) % 4) % 256 else h 69 i) → L_X12_feed_28 w v1 v2 v3 v4 v5 n h' (PI c (L + 20)) from this 20 0 (by omega) h15 (Fr.into Fr.refl (by decide)) (by omega) (fun i => by rw [if_neg (by omega), r69])
    intro j
    induction j with
    | zero =>
      intro n e h' F' l' V'
      obtain rfl : n = 20 := e
      refine l_X12_feed_28 ?_
      rw [l']
      refine ⟨⟨by omega, by omega⟩, fun _ => ⟨rfl, ?_⟩, fun q2 => absurd (by omega) q2⟩
      have F2 := F1.trans F'
      have z11 : h' 1 1 = L + 20 := by rw [← e15']; exact (F'.cell (C := [(1, 1)]) (W := []) (by decide)).1 (1, 1) (by decide)
      have z2 : h' 2 = h15 2 := (F'.cell (C := []) (W := [2]) (by decide)).2 2 (by decide)
      refine I.tape F2 (by decide) (by decide) (by decide) (by decide) (by decide) (by decide) (by decide) (by decide) ⟨by rw [z11, l']; omega, by omega, by omega, fun k k0 k1 => ?_⟩ (I.1.2.2.2.2.1.fr F2 (by decide)) (I.2.2.2.2.2.fr F2 (by decide))
      rw [l'] at k1
      rw [z2, W, V']
      by_cases d : L ≤ k ∧ k < L + 20
      · rw [if_pos d, if_pos (by omega)]
        have bm := bm_b (byP (wdP v1 v2 v3 v4 v5 (k - L)) ((k - L) % 4))
        exact ⟨bm.2.2.symm, bm.1, bm.2.1⟩
      · rw [if_neg d, if_neg (by omega)]
        exact t4 k k0 (by omega)
    | succ j ih =>
      intro n e h' F' l' V'
      have go : ∀ x : Int, x = wdP v1 v2 v3 v4 v5 n → ∀ h14 : Hp, h14 = hu h' 69 (L + n) ((x / 2 ^ (Int.toNat (8 * (3 - ((n : Int) % 4))))) % 256) → ∀ h16 : Hp, h16 = hu h14 68 1 ((h14 68 1) + 1) → L_X12_feed_28 w v1 v2 v3 v4 v5 ((n : Int) + 1) h16 (PI c (L + 20)) := by
        intro x ex h14 q14 h16 q16
        have F14 : Fr h' h14 [] [69] := by rw [q14]; exact Fr.row
        have F16 : Fr h14 h16 [(68, 1)] [] := by rw [q16]; exact Fr.cel
        refine ih (n + 1) (by omega) h16 ((F'.trans (F14.trans F16)).into (by decide)) (by rw [q16, hu_if, if_pos rfl, hu_row q14 (by decide), l']; omega) (fun i => ?_)
        rw [hu_row q16 (by decide), q14, hu_if, V']
        by_cases d : i = L + n
        · rw [if_pos d, if_pos (by omega), show i - L = n by omega, ex]; rfl
        · rw [if_neg d]
          by_cases d2 : L ≤ i ∧ i < L + n
          · rw [if_pos d2, if_pos (by omega)]
          · rw [if_neg d2, if_neg (by omega)]
      have wd : ∀ x, x = wdP v1 v2 v3 v4 v5 n ↔ x = (if (n : Int) < 4 then v1 else if (n : Int) < 8 then v2 else if (n : Int) < 12 then v3 else if (n : Int) < 16 then v4 else v5) := fun x => Iff.rfl
      refine l_X12_feed_28 ?_
      rw [l']
      refine ⟨⟨by omega, by omega⟩, fun q2 => absurd q2 (by omega), fun _ => ⟨⟨by omega, by omega⟩, fun q1 => ⟨⟨by omega, by omega⟩, fun q2 => ⟨⟨by omega, by omega⟩, fun q3 => ⟨⟨by omega, by omega⟩, fun q4 => ⟨⟨by omega, by omega⟩, r5, ⟨by omega, by omega⟩, ⟨by omega, by omega⟩, go v5 ?_⟩, fun q4 => ⟨⟨by omega, by omega⟩, r4, ⟨by omega, by omega⟩, ⟨by omega, by omega⟩, go v4 ?_⟩⟩, fun q3 => ⟨⟨by omega, by omega⟩, r3, ⟨by omega, by omega⟩, ⟨by omega, by omega⟩, go v3 ?_⟩⟩, fun q2 => ⟨⟨by omega, by omega⟩, r2, ⟨by omega, by omega⟩, ⟨by omega, by omega⟩, go v2 ?_⟩⟩, fun q1 => ⟨⟨by omega, by omega⟩, r1, ⟨by omega, by omega⟩, ⟨by omega, by omega⟩, go v1 ?_⟩⟩⟩
      · rw [wd, if_neg (by omega), if_neg (by omega), if_neg (by omega), if_neg (by omega)]
      · rw [wd, if_neg (by omega), if_neg (by omega), if_neg (by omega), if_pos (by omega)]
      · rw [wd, if_neg (by omega), if_neg (by omega), if_pos (by omega)]
      · rw [wd, if_neg (by omega), if_pos (by omega)]
      · rw [wd, if_pos (by omega)]
  · refine x_refuse ⟨by decide, by decide⟩ ⟨⟨by decide, by decide⟩, c_X12_feed ?_⟩
    rw [hu_ne (show (68 : Int) ≠ 59 by decide)]
    exact ⟨⟨by omega, by omega⟩, fun q2 => absurd q2 q, fun _ h2 e => ⟨rfl, fin_ref I (by decide) e⟩⟩
/-! image: a row of octets -/
def Lst (f : Int → Int) (l : List Int) : Prop := ∀ k : Nat, k < l.length → f k = l.getD k 0
theorem Lst.push {f f' : Int → Int} {l : List Int} {v : Int} (A : Lst f l) (e : f' (l.length : Nat) = v) (o : ∀ i : Int, i ≠ (l.length : Nat) → f' i = f i) : Lst f' (l ++ [v]) := by
  intro k hk
  rw [List.length_append, List.length_singleton] at hk
  by_cases d : k = l.length
  · subst d
    rw [e]; simp
  · rw [o _ (by omega), A k (by omega)]
    simp [List.getElem?_append_left (show k < l.length by omega)]
/-- octets written on the class's side, on the reference's -/
def XW (h0 h : Hp) (l : List Int) : Prop := h 0 16 = l.length ∧ Lst (h 58) l ∧ Fr h0 h [(0, 16)] [58]
def YO (h0 h : Hp) (l : List Int) : Prop := h 68 97 = l.length ∧ Lst (h 136) l ∧ Fr h0 h [(68, 97)] [136]
theorem x_write {v : Int} {l : List Int} (A : XW h0 h l) (hl : l.length < 201) (hv : 0 ≤ v ∧ v ≤ 255) (k : ∀ h1, XW h0 h1 (l ++ [v]) → K 0 h1) : C_X11_write w v h K := by
  obtain ⟨e, V, F⟩ := A
  refine c_X11_write ?_
  rw [e]
  refine ⟨⟨by omega, by omega⟩, fun q => absurd q (by omega), fun _ => ⟨⟨by omega, by omega⟩, fun h3 q3 h5 q5 => ?_⟩⟩
  have F3 : Fr h h3 [] [58] := by rw [q3]; exact Fr.row
  have F5 : Fr h3 h5 [(0, 16)] [] := by rw [q5]; exact Fr.cel
  refine k h5 ⟨by rw [q5, hu_if, if_pos rfl, hu_row q3 (by decide), e, List.length_append, List.length_singleton]; omega, V.push (f' := h5 58) ?_ ?_, (F.trans (F3.trans F5)).into (by decide)⟩
  · rw [hu_row q5 (by decide), q3, hu_if, if_pos rfl]; omega
  · intro i n
    rw [hu_row q5 (by decide), q3, hu_if, if_neg n]
theorem x_writeTwo {v : Int} {l : List Int} (A : XW h0 h l) (hl : l.length + 1 < 201) (hv : 0 ≤ v ∧ v ≤ 65535) (k : ∀ h1, XW h0 h1 (l ++ [v / 256] ++ [v % 256]) → K 0 h1) : C_X11_writeTwo w v h K := by
  refine c_X11_writeTwo ⟨⟨by omega, by omega⟩, x_write A (by omega) ⟨by omega, by omega⟩ (fun h3 A3 => ?_)⟩
  -- the lower octet is cut by the write itself
  obtain ⟨e, V, F⟩ := A3
  have ll : (l ++ [v / 256]).length = l.length + 1 := by rw [List.length_append, List.length_singleton]
  refine c_X11_write ?_
  rw [e]
  refine ⟨⟨by omega, by omega⟩, fun q => absurd q (by omega), fun _ => ⟨⟨by omega, by omega⟩, fun h5 q5 h7 q7 => ?_⟩⟩
  have F5 : Fr h3 h5 [] [58] := by rw [q5]; exact Fr.row
  have F7 : Fr h5 h7 [(0, 16)] [] := by rw [q7]; exact Fr.cel
  refine k h7 ⟨by rw [q7, hu_if, if_pos rfl, hu_row q5 (by decide), e, List.length_append (as := l ++ [v / 256]), List.length_singleton]; omega, V.push (f' := h7 58) ?_ ?_, (F.trans (F5.trans F7)).into (by decide)⟩
  · rw [hu_row q7 (by decide), q5, hu_if, if_pos rfl]
  · intro i n
    rw [hu_row q7 (by decide), q5, hu_if, if_neg n]
theorem y_writes {v : Int} {l : List Int} (A : YO h0 h l) (hl : l.length < 201) (k : ∀ h1, YO h0 h1 (l ++ [v]) → K 0 h1) : C_X12_writes w v h K := by
  obtain ⟨e, V, F⟩ := A
  refine c_X12_writes ?_
  rw [e]
  refine ⟨⟨by omega, by omega⟩, fun h3 q3 h5 q5 => ?_⟩
  have F3 : Fr h h3 [] [136] := by rw [q3]; exact Fr.row
  have F5 : Fr h3 h5 [(68, 97)] [] := by rw [q5]; exact Fr.cel
  refine k h5 ⟨by rw [q5, hu_if, if_pos rfl, hu_row q3 (by decide), e, List.length_append, List.length_singleton]; omega, V.push (f' := h5 136) ?_ ?_, (F.trans (F3.trans F5)).into (by decide)⟩
  · rw [hu_row q5 (by decide), q3, hu_if, if_pos rfl]
  · intro i n
    rw [hu_row q5 (by decide), q3, hu_if, if_neg n]
theorem y_writesTwo {v : Int} {l : List Int} (A : YO h0 h l) (hl : l.length + 1 < 201) (hv : 0 ≤ v ∧ v ≤ 65535) (k : ∀ h1, YO h0 h1 (l ++ [v / 256] ++ [v % 256]) → K 0 h1) : C_X12_writesTwo w v h K :=
  c_X12_writesTwo ⟨⟨by omega, by omega⟩, y_writes A (by omega) (fun h3 A3 => ⟨⟨by omega, by omega⟩, y_writes A3 (by rw [List.length_append, List.length_singleton]; omega) (fun h7 A7 => k h7 A7)⟩)⟩
def imB (g : Int → Int) (x : Nat) : Nat → List Int → List Int
  | 0, l => l
  | m + 1, l => imB g x m l ++ [g (29 + 10 * (x : Int) + (m : Int)) / 256] ++ [g (29 + 10 * (x : Int) + (m : Int)) % 256]
def imX (g : Int → Int) (nb : Nat) : Nat → List Int
  | 0 => [] ++ [g 0 / 256] ++ [g 0 % 256]
  | n + 1 => imB g n nb (imX g nb n ++ [g (1 + (n : Int))])
def imH (g : Int → Int) (nb nr : Nat) : Nat → List Int
  | 0 => imX g nb nr
  | m + 1 => imH g nb nr m ++ [g (9 + (m : Int))] ++ [g (19 + (m : Int)) / 256] ++ [g (19 + (m : Int)) % 256]
theorem imB_len {x m : Nat} {l : List Int} : (imB g x m l).length = l.length + 2 * m := by
  induction m with
  | zero => rfl
  | succ m ih => unfold imB; rw [List.length_append, List.length_append, ih, List.length_singleton, List.length_singleton]; omega
theorem imX_len {nb n : Nat} : (imX g nb n).length = 2 + (1 + 2 * nb) * n := by
  induction n with
  | zero => rfl
  | succ n ih => unfold imX; rw [imB_len, List.length_append, ih, List.length_singleton, Nat.mul_add]; omega
theorem imH_len {nb nr m : Nat} : (imH g nb nr m).length = 2 + (1 + 2 * nb) * nr + 3 * m := by
  induction m with
  | zero => exact imX_len
  | succ m ih => unfold imH; rw [List.length_append, List.length_append, List.length_append, ih, List.length_singleton, List.length_singleton, List.length_singleton]; omega
def OK8 (l : List Int) : Prop := ∀ v ∈ l, 0 ≤ v ∧ v ≤ 255
theorem OK8.add {l : List Int} {v : Int} (A : OK8 l) (hv : 0 ≤ v ∧ v ≤ 255) : OK8 (l ++ [v]) := by
  intro a ha
  rw [List.mem_append, List.mem_singleton] at ha
  rcases ha with ha | ha
  · exact A a ha
  · rw [ha]; exact hv
def ckF (f : Int → Int) : Nat → Int
  | 0 => 173
  | k + 1 => (3 * ckF f k + f k) % 251
theorem ckF_b {f : Int → Int} {n : Nat} (hf : ∀ k : Nat, k < n → 0 ≤ f k ∧ f k ≤ 255) : 0 ≤ ckF f n ∧ ckF f n ≤ 250 := by
  cases n with
  | zero => exact ⟨by show (0 : Int) ≤ 173; omega, by show (173 : Int) ≤ 250; omega⟩
  | succ n => unfold ckF; omega
theorem ckF_cg {f f' : Int → Int} {n : Nat} (e : ∀ k : Nat, k < n → f k = f' k) : ckF f n = ckF f' n := by
  induction n with
  | zero => rfl
  | succ n ih => unfold ckF; rw [ih (fun k hk => e k (by omega)), e n (by omega)]
theorem Lst.ok {f : Int → Int} {l : List Int} (A : Lst f l) (o : OK8 l) {k : Nat} (hk : k < l.length) : 0 ≤ f k ∧ f k ≤ 255 := by
  rw [A k hk]
  refine o _ ?_
  rw [List.getD_eq_getElem?_getD, List.getElem?_eq_getElem hk]
  exact List.getElem_mem hk
end L2g
