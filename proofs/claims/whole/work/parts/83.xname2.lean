/-! names -/
def NAf (t : Int → Int) (L q : Nat) (kd pl : Int) : Prop := kd = 1 ∧ ((pl = q ∧ ¬ isLt (byL t L q)) ∨ (pl = (q + 6 : Nat) ∧ ∀ i : Nat, i < 7 → q + i < L ∧ isLt (t (q + i : Nat))) ∨ (pl = q ∧ ∃ a ∈ ows, wI t L q a))
def NAn (t : Int → Int) (L q n : Nat) : Prop := 1 ≤ n ∧ n ≤ 6 ∧ q + n ≤ L ∧ (∀ i : Nat, i < n → isLt (t (q + i : Nat))) ∧ ¬ isLt (byL t L (q + n)) ∧ ∀ a ∈ ows, ¬ wI t L q a
theorem byL_in {t : Int → Int} {L k : Nat} (h : k < L) : byL t L k = t k := if_pos h
theorem wI.n {t : Int → Int} {L q n : Nat} {a : Int} (W : wI t L q a) (ok : wOK a) (nL : q + n ≤ L) (V : ∀ i : Nat, i < n → isLt (t (q + i : Nat))) (nl : ¬ isLt (byL t L (q + n))) : (slen a).toNat = n := by
  rcases Nat.lt_trichotomy (slen a).toNat n with g | g | g
  · exfalso
    have x := W.2.2.1
    rw [byL_in (by omega)] at x
    exact x (V _ g)
  · exact g
  · exfalso
    have l := W.1
    have x := W.2.1 n g
    rw [byL_in (by omega), x] at nl
    exact nl (ok.2.2 n g)
theorem own_iff {t : Int → Int} {L q n : Nat} (n6 : n ≤ 6) (nL : q + n ≤ L) (V : ∀ i : Nat, i < n → isLt (t (q + i : Nat))) (nl : ¬ isLt (byL t L (q + n))) (g : ¬ GL t q) : (∃ a ∈ ows, hp (nml t q n) 6 = hp (wml a) 6) ↔ ∃ a ∈ ows, wI t L q a := by
  constructor
  · rintro ⟨a, ha, e⟩
    obtain ⟨ok, s6⟩ := ows_ok a ha
    have wb : ∀ k : Nat, 0 ≤ wml a k ∧ wml a k ≤ 31 := fun k => by
      unfold wml
      split
      · have := ok.2.2 k (by assumption); omega
      · decide
    have eq : ∀ k : Nat, k < 6 → nml t q n k = wml a k := fun k hk => by
      have e1 := (hp_at (fun k => nml_b V k) hk).1
      have e2 := (hp_at wb hk).1
      rw [← e1, ← e2, e]
    have en : (slen a).toNat = n := by
      rcases Nat.lt_trichotomy (slen a).toNat n with g | g | g
      · have := eq (slen a).toNat (by omega)
        unfold nml wml at this
        rw [if_pos g, if_neg (by omega)] at this
        have := V _ g
        omega
      · exact g
      · have := eq n (by omega)
        unfold nml wml at this
        rw [if_neg (by omega), if_pos g] at this
        have := ok.2.2 n g
        omega
    refine ⟨a, ha, by rw [en]; exact nL, fun i hi => ?_, by rw [en]; exact nl, g⟩
    have := eq i (by omega)
    unfold nml wml at this
    rw [if_pos (by omega), if_pos hi] at this
    omega
  · rintro ⟨a, ha, W⟩
    obtain ⟨ok, s6⟩ := ows_ok a ha
    have en := W.n ok nL V nl
    refine ⟨a, ha, hp_cg 6 (fun k hk => ?_)⟩
    unfold nml wml
    by_cases d : k < n
    · rw [if_pos d, if_pos (by omega), W.2.1 k (by omega)]
    · rw [if_neg d, if_neg (by omega)]
section L3O
variable {w : Wd} {h h0 : Hp} {K : Int → Hp → Prop} {t : Int → Int} {L p : Nat}
theorem x_name (X : XS t L h p) (hg : isLt (byL t L (sk t L p)) → ¬ GL t (sk t L p)) (k1 : ∀ n, NAn t L (sk t L p) n → ∀ h1, Fr h h1 txL [] → XS t L h1 (sk t L p + n) → h1 1 3 = sk t L p → K (hp (nml t (sk t L p) n) 6) h1) (k0 : ∀ kd pl, NAf t L (sk t L p) kd pl → ∀ h1, Fr h h1 txL [] → XB t L h1 kd pl → K 0 h1) : C_X10_name w h K := by
  refine c_X10_name (XS.next X (fun h2 F2 X2 e3 => ?_))
  generalize sk t L p = q at X2 e3 k1 k0 hg
  have l2 := X2.1.2.1
  have z0 : hp (nml t q 0) 6 = 0 := by
    have := hp_pad (l := nml t q 0) (n := 0) (fun k _ => nml_z k (Nat.zero_le _)) 6
    rw [Nat.zero_add] at this
    rw [this]; exact Int.zero_mul _
  have bad : ∀ (pl : Nat) h', XS t L h' pl → Fr h h' txL [] → NAf t L q 1 pl → L_X10_name_77 w h' K := fun pl h' X' F' N => l_X10_name_77 (x_failHere X'.1 X'.2.2.2 X'.2.1 (fun h5 F5 B5 _ => k0 1 pl N h5 ((F'.trans F5).into (by decide)) B5))
  have fin : ∀ (n : Nat) (v : Int) h', n ≤ 6 → v = hp (nml t q n) 6 → (∀ i : Nat, i < n → isLt (t (q + i : Nat))) → (n = 6 ∨ ¬ isLt (byL t L (q + n))) → XS t L h' (q + n) → h' 1 3 = q → Fr h h' txL [] → L_X10_name_59 w v h' K := by
    intro n v h' n6 ev V stop X' e3' F'
    have nL := X'.2.2.1
    have b := byL_b X'.1 (q + n)
    have r := hp_at (fun k => nml_b (q := q) V k) (k := 0) (by decide)
    subst ev
    refine l_X10_name_59 ⟨r.2, fun c => ?_, fun c => ?_⟩
    · by_cases d : n = 0
      · subst d
        exact bad q h' X' F' ⟨rfl, Or.inl ⟨rfl, stop.resolve_left (by decide)⟩⟩
      · exfalso
        have e := r.1
        rw [c] at e
        have : nml t q n 0 = t (q + 0 : Nat) - 96 := if_pos (by omega)
        have v0 := V 0 (by omega)
        rw [this, Int.zero_ediv, Int.zero_emod] at e
        omega
    · have n0 : n ≠ 0 := fun d => c (by rw [d]; exact z0)
      have lq : isLt (byL t L q) := by rw [byL_in (by omega)]; exact V 0 (by omega)
      have own : ¬ isLt (byL t L (q + n)) → C_X10_isOwnWord w (hp (nml t q n) 6) h' (fun r26 h27 => (r26 = 0 ∨ r26 = 1) → ((r26 = 0) → (K (hp (nml t q n) 6) h27)) ∧ (¬ (r26 = 0) → (C_X10_fail w 1 (h27 1 3) h27 (fun r29 h30 => (r29 = 0 ∨ r29 = 1) → K 0 h30)))) := fun nl => by
        have O := own_iff n6 nL V nl (hg lq)
        refine x_isOwn r.2 (fun m _ => ⟨fun c => absurd c (by decide), fun _ => ?_⟩) (fun m _ => ⟨fun _ => k1 n ⟨by omega, n6, nL, V, nl, fun a ha W => ?_⟩ h' F' X' e3', fun c => absurd rfl c⟩)
        · rw [e3']
          exact x_fail X'.1 X'.2.2.2 ⟨by decide, by decide⟩ (fun h5 F5 B5 _ => k0 1 q ⟨rfl, Or.inr (Or.inr ⟨rfl, O.mp m⟩)⟩ h5 ((F'.trans F5).into (by decide)) B5)
        · obtain ⟨a', ha', e'⟩ := O.mpr ⟨a, ha, W⟩
          exact m a' ha' e'
      rw [X'.2.1]
      refine x_by X'.1 (q + n) rfl (by omega) ⟨⟨by omega, by omega⟩, fun g => own (fun x => by omega), fun g => ⟨⟨by omega, by omega⟩, fun g2 => own (fun x => by omega), fun g2 => ?_⟩⟩
      have lt : isLt (byL t L (q + n)) := ⟨by omega, by omega⟩
      obtain rfl : n = 6 := stop.resolve_right (fun x => x lt)
      have l6 : q + 6 < L := byL_lt (t := t) rfl (by omega)
      refine bad (q + 6) h' X' F' ⟨rfl, Or.inr (Or.inl ⟨rfl, fun i hi => ?_⟩)⟩
      by_cases d : i = 6
      · subst d; rw [byL_in l6] at lt; exact ⟨l6, lt⟩
      · exact ⟨by omega, V i (by omega)⟩
  suffices ∀ j n : Nat, n + j = 6 → ∀ (v : Int) h', v = hp (nml t q n) 6 → (∀ i : Nat, i < n → isLt (t (q + i : Nat))) → XS t L h' (q + n) → h' 1 3 = q → Fr h h' txL [] → L_X10_name_8 w v n h' K from this 6 0 rfl 0 h2 z0.symm (fun i hi => absurd hi (Nat.not_lt_zero _)) X2 e3 F2
  intro j
  induction j with
  | zero =>
    intro n e v h' ev V X' e3' F'
    exact l_X10_name_8 ⟨⟨by omega, by omega⟩, fun _ => fin n v h' (by omega) ev V (Or.inl (by omega)) X' e3' F', fun c => absurd (by omega) c⟩
  | succ j ih =>
    intro n e v h' ev V X' e3' F'
    have b := byL_b X'.1 (q + n)
    have nL := X'.2.2.1
    refine l_X10_name_8 ⟨⟨by omega, by omega⟩, fun c => absurd c (by omega), fun _ => ?_⟩
    rw [X'.2.1]
    refine x_by X'.1 (q + n) rfl (by omega) ⟨⟨by omega, by omega⟩, fun g => fin n v h' (by omega) ev V (Or.inr (fun x => by omega)) X' e3' F', fun g => ⟨⟨by omega, by omega⟩, fun g2 => fin n v h' (by omega) ev V (Or.inr (fun x => by omega)) X' e3' F', fun g2 => ?_⟩⟩
    rw [X'.2.1]
    have lt : q + n < L := byL_lt (t := t) rfl (by omega)
    have eb := byL_in (t := t) lt
    refine x_by X'.1 (q + n) rfl (by omega) (c_X10_packedLetter ⟨⟨by omega, by omega⟩, fun h16 q16 => ?_⟩)
    have F16 : Fr h' h16 [(1, 2)] [] := by rw [q16]; exact Fr.cel
    rw [eb, ev, nml_or (by omega) V ⟨by omega, by omega⟩]
    refine ih (n + 1) (by omega) _ h16 rfl (fun i hi => ?_) ⟨X'.1.fr F16 (by decide), by rw [q16, hu_if, if_pos rfl, X'.2.1]; omega, lt, by rw [q16, hu_if, if_neg (by decide)]; exact X'.2.2.2⟩ (by rw [q16, hu_if, if_neg (by decide)]; exact e3') ((F'.trans F16).into (by decide))
    by_cases d : i = n
    · subst d; exact ⟨by omega, by omega⟩
    · exact V i (by omega)
end L3O
