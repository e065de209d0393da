/-! the class reads words and numbers -/
section L3B
variable {w : Wd} {h h0 : Hp} {K : Int → Hp → Prop} {t : Int → Int} {L p : Nat}
theorem x_word {a : Int} {n : Nat} (ha : St a) (hn : slen a = n) (hn0 : 0 < n ∧ n ≤ 100) (X : XS t L h p) (hc : ∀ i : Nat, i < n → 0 ≤ sch a i ∧ sch a i ≤ 255) (k1 : isW t L (sk t L p) n (sch a) → ∀ h1, Fr h h1 txL [] → XS t L h1 (sk t L p + n) → h1 1 3 = sk t L p → K 1 h1) (k0 : ¬ isW t L (sk t L p) n (sch a) → ∀ h1, Fr h h1 txL [] → XS t L h1 (sk t L p) → K 0 h1) : C_X10_word w a h K := by
  refine c_X10_word ha (XS.next X (fun h2 F2 X2 e3 => ?_))
  obtain ⟨q, hq⟩ : ∃ q, q = sk t L p := ⟨_, rfl⟩
  rw [← hq] at X2 e3 k1 k0
  have bb := X2.1.2.1
  have hqL := X2.2.2.1
  suffices ∀ j i : Nat, i + j = n → (∀ m : Nat, m < i → q + m < L ∧ t (q + m : Nat) = sch a m) → L_X10_word_6 w a i h2 K from this n 0 (by omega) (fun m hm => by omega)
  intro j
  induction j with
  | succ j ih =>
    intro i e V
    have b := byL_b X2.1 (q + i)
    have c := hc i (by omega)
    have r := X2.2.1
    refine l_X10_word_6 ha ?_
    rw [hn, r]
    refine ⟨⟨by omega, by omega⟩, fun q => absurd q (by omega), fun _ => x_by X2.1 (q + i) (by omega) (by omega) ⟨⟨by omega, by omega⟩, ⟨by omega, by omega⟩, fun g => ?_, fun g => k0 (fun W => g ?_) h2 F2 X2⟩⟩
    · refine ih (i + 1) (by omega) (fun m hm => ?_)
      by_cases d : m = i
      · subst d
        unfold byL at g
        by_cases d2 : q + m < L
        · rw [if_pos d2] at g; exact ⟨d2, g⟩
        · rw [if_neg d2] at g; omega
      · exact V m (by omega)
    · have := W.2.1 i (by omega)
      unfold byL
      rw [if_pos (by have := W.1; omega)]
      exact this
  | zero =>
    intro i e V
    obtain rfl : i = n := e
    have b := byL_b X2.1 (q + i)
    have r := X2.2.1
    have le : q + i ≤ L := by have := (V (i - 1) (by omega)).1; omega
    have fin : ¬ isLt (byL t L (q + i)) → C_X10_isGlued w h2 (fun r9 h10 => (r9 = 0 ∨ r9 = 1) → ((r9 = 0) → (∀ h12 : Hp, h12 = hu h10 1 2 ((h10 1 2) + (i : Int)) → K 1 h12)) ∧ (¬ (r9 = 0) → (K 0 h10))) := fun nl => by
      refine x_isGlued X2 (fun g _ => ⟨fun c => absurd c (by decide), fun _ => k0 (fun W => W.2.2.2 g) h2 F2 X2⟩) (fun g _ => ⟨fun _ h12 q12 => ?_, fun c => absurd rfl c⟩)
      have F12 : Fr h2 h12 [(1, 2)] [] := by rw [q12]; exact Fr.cel
      exact k1 ⟨le, fun m hm => (V m hm).2, nl, g⟩ h12 ((F2.trans F12).into (by decide)) ⟨X2.1.fr F12 (by decide), by rw [q12, hu_if, if_pos rfl, r]; omega, le, by rw [q12, hu_if, if_neg (by decide)]; exact X2.2.2.2⟩ (by rw [q12, hu_if, if_neg (by decide)]; exact e3)
    refine l_X10_word_6 ha ?_
    rw [hn, r]
    exact ⟨⟨by omega, by omega⟩, fun _ => x_by X2.1 (q + i) (by omega) (by omega) ⟨⟨by omega, by omega⟩, fun g => fin (fun x => by omega), fun g => ⟨⟨by omega, by omega⟩, fun g2 => fin (fun x => by omega), fun g2 => k0 (fun W => W.2.2.1 ⟨by omega, by omega⟩) h2 F2 X2⟩⟩, fun c => absurd (Int.le_refl _) c⟩
theorem x_needWord {a : Int} {n : Nat} (ha : St a) (hn : slen a = n) (hn0 : 0 < n ∧ n ≤ 100) (X : XS t L h p) (hc : ∀ i : Nat, i < n → 0 ≤ sch a i ∧ sch a i ≤ 255) (k1 : isW t L (sk t L p) n (sch a) → ∀ h1, Fr h h1 txL [] → XS t L h1 (sk t L p + n) → h1 1 3 = sk t L p → K 1 h1) (k0 : ¬ isW t L (sk t L p) n (sch a) → ∀ h1, Fr h h1 txL [] → XB t L h1 1 (sk t L p) → K 0 h1) : C_X10_needWord w a h K :=
  c_X10_needWord ha (x_word ha hn hn0 X hc (fun q h1 F1 X1 e3 _ => ⟨fun _ => k1 q h1 F1 X1 e3, fun c => absurd (by decide) c⟩) (fun q h1 F1 X1 _ => ⟨fun c => absurd rfl c, fun _ => x_failHere X1.1 X1.2.2.2 X1.2.1 (fun h5 F5 B5 _ => ⟨fun _ => k0 q h5 ((F1.trans F5).into (by decide)) B5, fun c => absurd rfl c⟩)⟩))
theorem x_isDigitNext (X : XS t L h p) (k1 : isDg (byL t L (sk t L p)) → ∀ h1, Fr h h1 txL [] → XS t L h1 (sk t L p) → K 1 h1) (k0 : ¬ isDg (byL t L (sk t L p)) → ∀ h1, Fr h h1 txL [] → XS t L h1 (sk t L p) → K 0 h1) : C_X10_isDigitNext w h K := by
  refine c_X10_isDigitNext (XS.next X (fun h1 F1 X1 e3 => x_by X1.1 (sk t L p) X1.2.1 (by have := X1.2.2.1; have := X1.1.2.1; omega) ?_))
  have b := byL_b X1.1 (sk t L p)
  exact ⟨⟨by omega, by omega⟩, fun q => k0 (fun x => by omega) h1 F1 X1, fun q => ⟨⟨by omega, by omega⟩, fun q2 => k0 (fun x => by omega) h1 F1 X1, fun q2 => k1 ⟨by omega, by omega⟩ h1 F1 X1⟩⟩
theorem x_number {lo hi : Int} (X : XS t L h p) (hlo : inR lo) (hhi : inR hi) (k1 : ∀ v n, NV t L (sk t L p) lo hi v n → ∀ h1, Fr h h1 txL [] → XS t L h1 (sk t L p + n) → K v h1) (k0 : ∀ kd pl, NF t L (sk t L p) lo hi kd pl → ∀ h1, Fr h h1 txL [] → XB t L h1 kd pl → K (-1) h1) : C_X10_number w lo hi h K := by
  refine c_X10_number (XS.next X (fun h2 F2 X2 e3 => ?_))
  obtain ⟨q, hq⟩ : ∃ q, q = sk t L p := ⟨_, rfl⟩
  rw [← hq] at X2 e3 k1 k0
  have bb := X2.1.2.1
  have hqL := X2.2.2.1
  have b := byL_b X2.1 q
  have bad : (¬ isDg (byL t L q) ∨ GL t q) → L_X10_number_25 w h2 K := fun c => l_X10_number_25 (x_failHere X2.1 X2.2.2.2 X2.2.1 (fun h5 F5 B5 _ => k0 1 q (Or.inl ⟨rfl, rfl, c⟩) h5 ((F2.trans F5).into (by decide)) B5))
  refine x_by X2.1 q X2.2.1 (by omega) ⟨⟨by omega, by omega⟩, fun g => bad (Or.inl (fun x => by omega)), fun g => ⟨⟨by omega, by omega⟩, fun g2 => bad (Or.inl (fun x => by omega)), fun g2 => x_isGlued X2 (fun gl _ => ⟨fun c => absurd c (by decide), fun _ => bad (Or.inr gl)⟩) (fun gl _ => ⟨fun _ => ?_, fun c => absurd rfl c⟩)⟩⟩
  -- the number's end
  have L90 : ∀ n : Nat, 1 ≤ n → n ≤ 4 → q + n ≤ L → (∀ i : Nat, i < n → isDg (t (q + i : Nat))) → (n = 4 ∨ ¬ isDg (byL t L (q + n))) → ∀ h', Fr h h' txL [] → XS t L h' (q + n) → h' 1 3 = q → L_X10_number_90 w lo hi (nvT t q n) h' K := by
    intro n n1 n4 nL dg last h' F' X' e3'
    have nb := nvT_b (t := t) (q := q) n n4 dg
    have b := byL_b X'.1 (q + n)
    have rng : ¬ isDg (byL t L (q + n)) → (¬ (lo ≤ nvT t q n ∧ nvT t q n ≤ hi) → L_X10_number_121 w h' K) := fun nd no => by
      refine l_X10_number_121 ?_
      rw [e3']
      exact x_fail X'.1 X'.2.2.2 ⟨by decide, by decide⟩ (fun h5 F5 B5 _ => k0 2 q (Or.inr (Or.inr ⟨rfl, rfl, gl, n, n1, n4, nL, dg, nd, no⟩)) h5 ((F'.trans F5).into (by decide)) B5)
    have ok : ¬ isDg (byL t L (q + n)) → (inR (nvT t q n)) ∧ ((inR lo) ∧ (((nvT t q n < lo) → (L_X10_number_121 w h' K)) ∧ (¬ (nvT t q n < lo) → ((inR (nvT t q n)) ∧ ((inR hi) ∧ (((nvT t q n ≤ hi) → (K (nvT t q n) h')) ∧ (¬ (nvT t q n ≤ hi) → (L_X10_number_121 w h' K)))))))) := fun nd => ⟨⟨by omega, by omega⟩, hlo, fun c => rng nd (fun x => by omega), fun c => ⟨⟨by omega, by omega⟩, hhi, fun c2 => k1 _ n ⟨gl, n1, n4, nL, dg, nd, rfl, by omega, c2⟩ h' F' X', fun c2 => rng nd (fun x => by omega)⟩⟩
    refine l_X10_number_90 ?_
    rw [X'.2.1]
    refine x_by X'.1 (q + n) rfl (by omega) ⟨⟨by omega, by omega⟩, fun g => ok (fun x => by omega), fun g => ⟨⟨by omega, by omega⟩, fun g2 => ok (fun x => by omega), fun g2 => ?_⟩⟩
    have n4' : n = 4 := by
      rcases last with l | l
      · exact l
      · exact absurd ⟨by omega, by omega⟩ l
    subst n4'
    refine x_failHere X'.1 X'.2.2.2 X'.2.1 (fun h5 F5 B5 _ => k0 1 _ (Or.inr (Or.inl ⟨rfl, rfl, gl, fun i hi5 => ?_⟩)) h5 ((F'.trans F5).into (by decide)) B5)
    by_cases d : i < 4
    · exact ⟨by omega, dg i d⟩
    · obtain rfl : i = 4 := by omega
      unfold byL at g g2
      by_cases d2 : q + 4 < L
      · rw [if_pos d2] at g g2; exact ⟨d2, by omega, by omega⟩
      · rw [if_neg d2] at g; omega
  suffices ∀ j n : Nat, n + j = 4 → q + n ≤ L → (∀ i : Nat, i < n → isDg (t (q + i : Nat))) → (n = 0 → isDg (byL t L q)) → ∀ h', Fr h h' txL [] → XS t L h' (q + n) → h' 1 3 = q → L_X10_number_37 w lo hi (nvT t q n) n h' K from this 4 0 (by omega) hqL (fun i hi0 => by omega) (fun _ => ⟨by omega, by omega⟩) h2 F2 X2 e3
  intro j
  induction j with
  | zero =>
    intro n e nL dg _ h' F' X' e3'
    obtain rfl : n = 4 := e
    exact l_X10_number_37 ⟨⟨by omega, by omega⟩, fun _ => L90 4 (by omega) (by omega) nL dg (Or.inl rfl) h' F' X' e3', fun c => absurd (by omega) c⟩
  | succ j ih =>
    intro n e nL dg z h' F' X' e3'
    have b := byL_b X'.1 (q + n)
    have stop : ¬ isDg (byL t L (q + n)) → L_X10_number_90 w lo hi (nvT t q n) h' K := fun nd => by
      by_cases n0 : n = 0
      · subst n0; exact absurd (z rfl) nd
      · exact L90 n (by omega) (by omega) nL dg (Or.inr nd) h' F' X' e3'
    refine l_X10_number_37 ?_
    rw [X'.2.1]
    refine ⟨⟨by omega, by omega⟩, fun c => absurd c (by omega), fun _ => x_by X'.1 (q + n) rfl (by omega) ⟨⟨by omega, by omega⟩, fun g => stop (fun x => by omega), fun g => ⟨⟨by omega, by omega⟩, fun g2 => stop (fun x => by omega), fun g2 => ?_⟩⟩⟩
    rw [X'.2.1]
    refine x_by X'.1 (q + n) rfl (by omega) (fun h24 q24 => ?_)
    have F24 : Fr h' h24 [(1, 2)] [] := by rw [q24]; exact Fr.cel
    have lt : q + n < L := by
      unfold byL at g
      by_cases d2 : q + n < L
      · exact d2
      · rw [if_neg d2] at g; omega
    have ev : byL t L (q + n) = t (q + n : Nat) := if_pos lt
    have r := ih (n + 1) (by omega) (by omega) (fun i hi1 => by
      by_cases d : i = n
      · subst d; rw [← ev]; exact ⟨by omega, by omega⟩
      · exact dg i (by omega)) (fun c => by omega) h24 ((F'.trans F24).into (by decide)) ⟨X'.1.fr F24 (by decide), by rw [q24, hu_if, if_pos rfl, X'.2.1]; omega, by omega, by rw [q24, hu_if, if_neg (by decide)]; exact X'.2.2.2⟩ (by rw [q24, hu_if, if_neg (by decide)]; exact e3')
    have ee : 10 * nvT t q n + byL t L (q + n) - 48 = nvT t q (n + 1) := by rw [ev]; rfl
    rw [ee]
    exact r
end L3B
