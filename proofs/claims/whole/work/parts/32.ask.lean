/-! the calls that only look -/
def Q0 (h : Hp) : Prop := RR h (h 0 4) ∧ GS h (h 104) ∧ SX h 40 (h 104)
def hasF (h : Hp) (a : Int) : Int := if a = 0 then h 68 36 else if a = 1 then h 93 3 else if a = 2 then h 93 4 else if a = 3 then h 93 5 else if a = 4 then h 97 3 else if a = 5 then h 97 4 else if a = 6 then h 97 5 else if a = 7 then h 104 0
  else if a = 8 then sm 8 (fun r => h 104 (1 + r)) else if a = 9 then sm 10 (fun b => h 104 (9 + b)) else if a = 10 then sm 80 (fun k => h 104 (29 + k)) else if a = 11 then sm 10 (fun b => h 104 (19 + b)) else if a = 12 then h 68 61 else -1
theorem hasF_out {h : Hp} {a : Int} (g : a < 0 ∨ 12 < a) : hasF h a = -1 := by
  unfold hasF
  repeat rw [if_neg (by omega)]
section L2C
variable {w : Wd} {h : Hp} {K : Int → Hp → Prop} {r s : Int}
theorem sum80 (S : SX h s (h 104)) : sm 80 (h (s + 2)) = sm 80 (fun k => h 104 (29 + k)) := by
  refine sm_congr fun k h0 h1 => ?_
  have := S.2.2.2 (k / 10) (k % 10) (by omega) (by omega) (by omega) (by omega)
  rw [show k / 10 * 10 + k % 10 = k by omega, show 29 + 10 * (k / 10) + k % 10 = 29 + k by omega] at this
  exact this
theorem x_has (Q : Q0 h) (hp : h 50 2 = h 68 61) {a : Int} (ha : inR a) (k : K (hasF h a) h) : C_X11_has w a h K := by
  obtain ⟨R, G, S⟩ := Q
  have ob := R.ob
  have e8 : sm 8 (h 41) = sm 8 (fun r => h 104 (1 + r)) := sm_congr fun r h0 h1 => S.2.1 r h0 h1
  have e9 : sm 10 (h 43) = sm 10 (fun b => h 104 (9 + b)) := sm_congr fun b h0 h1 => (S.2.2.1 b h0 h1).1
  have e11 : sm 10 (h 44) = sm 10 (fun b => h 104 (19 + b)) := sm_congr fun b h0 h1 => (S.2.2.1 b h0 h1).2
  have e10 : sm 80 (h 42) = sm 80 (fun k => h 104 (29 + k)) := by
    have q := sum80 S
    rw [show (40 : Int) + 2 = 42 from rfl] at q
    exact q
  refine c_X11_has ⟨ha, fun c => ⟨ob, ?_⟩, fun c => ⟨ob, ?_⟩, fun c => ⟨ob, ?_⟩, fun c => ⟨ob, ?_⟩, fun c => ⟨ob, ?_⟩, fun c => ⟨ob, ?_⟩, fun c => ⟨ob, ?_⟩, fun c => ?_, fun c => ?_, fun c => ?_, fun c => ?_, fun c => ?_, fun c => ?_, fun c => ?_⟩
  · rw [R.2.1.1]; subst c; exact k
  · rw [R.ow.1]; subst c; exact k
  · rw [R.co.1]; subst c; exact k
  · rw [R.nb.2.2, ← R.nb.1]; subst c; exact k
  · rw [R.se.1.1]; subst c; exact k
  · rw [R.se.2.1.1]; subst c; exact k
  · rw [R.se.2.2.1]; subst c; exact k
  · rw [S.1]; subst c; exact k
  · exact s_total ar_41 (by rw [e8]; subst c; exact k)
  · exact s_total ar_43 (by rw [e9]; subst c; exact k)
  · exact s_total ar_42 (by rw [e10]; subst c; exact k)
  · exact s_total ar_44 (by rw [e11]; subst c; exact k)
  · rw [hp]; subst c; exact k
  · rw [hasF_out c] at k; exact k
theorem y_has {a : Int} (ha : inR a) (k : K (hasF h a) h) : C_X12_has w a h K := by
  refine c_X12_has ⟨ha, fun c => ?_, fun c => ?_, fun c => ?_, fun c => ?_, fun c => ⟨by omega, ?_⟩, fun c => ⟨by omega, ?_⟩, fun c => ⟨by omega, ?_⟩, fun c => ?_, fun c => ?_, fun c => ?_, fun c => ?_, fun c => ?_, fun c => ?_, fun c => ?_⟩
  · subst c; exact k
  · subst c; exact k
  · subst c; exact k
  · subst c; exact k
  · subst c; exact k
  · subst c; exact k
  · subst c; exact k
  · subst c; exact k
  · exact m_sumNow (n := 8) ⟨by decide, by decide⟩ (by subst c; exact k)
  · exact m_sumNow (n := 10) ⟨by decide, by decide⟩ (by subst c; exact k)
  · exact m_sumNow (n := 80) ⟨by decide, by decide⟩ (by subst c; exact k)
  · exact m_sumNow (n := 10) ⟨by decide, by decide⟩ (by subst c; exact k)
  · subst c; exact k
  · rw [hasF_out c] at k; exact k
/-! bank -/
def bankF (h : Hp) (a b : Int) : Int := if 0 ≤ a ∧ a < nbN h then (if b = 0 then h 96 (50 + 5 * a + 0) else if b = 1 then h 96 (50 + 5 * a + 1) else if b = 2 then h 96 (50 + 5 * a + 2) else if b = 3 then h 96 (50 + 5 * a + 4) else if b = 4 then h 104 (9 + a) else if b = 5 then sm (nrN h) (fun r => h 104 (29 + 10 * r + a)) else if b = 6 then h 104 (19 + a) else -1) else -1
theorem lyOf_eq (R : RR h r) (G : GS h (h 104)) (S : SX h s (h 104)) {b : Int} (hb : 0 ≤ b ∧ b < 10) : sm 8 (fun r => h (s + 2) (r * 10 + b)) = sm (nrN h) (fun r => h 104 (29 + 10 * r + b)) := by
  have hn := R.nr
  rw [← sm_more (n := nrN h) (m := 8) (by omega) (fun x h0 h1 => (G.2.2.2.1 x b (by omega) (by omega) hb.1 hb.2).2 (Or.inl (by omega)))]
  exact sm_congr fun x h0 h1 => S.2.2.2 x b h0 h1 hb.1 hb.2
theorem bankF_in {h : Hp} {a b : Int} (g : 0 ≤ a ∧ a < nbN h) : bankF h a b = (if b = 0 then h 96 (50 + 5 * a + 0) else if b = 1 then h 96 (50 + 5 * a + 1) else if b = 2 then h 96 (50 + 5 * a + 2) else if b = 3 then h 96 (50 + 5 * a + 4) else if b = 4 then h 104 (9 + a) else if b = 5 then sm (nrN h) (fun r => h 104 (29 + 10 * r + a)) else if b = 6 then h 104 (19 + a) else -1) := if_pos g
theorem bankF_no {h : Hp} {a b : Int} (g : ¬ (0 ≤ a ∧ a < nbN h)) : bankF h a b = -1 := if_neg g
theorem x_bank (Q : Q0 h) {a b : Int} (ha : inR a) (hb : inR b) (k : K (bankF h a b) h) : C_X11_bank w a b h K := by
  obtain ⟨R, G, S⟩ := Q
  have ob := R.ob
  have hn := R.nb
  refine c_X11_bank ⟨ob, x_hasBank R ha (fun g _ => ⟨fun _ => ?_, fun c => absurd (by decide) c⟩) (fun g _ => ⟨fun c => absurd rfl c, fun _ => by rw [bankF_no g] at k; exact k⟩)⟩
  have B := R.bk g.1 g.2
  rw [bankF_in g] at k
  refine ⟨hb, fun c => ⟨ob, by omega, ?_⟩, fun c => ⟨ob, by omega, ?_⟩, fun c => ⟨ob, by omega, ?_⟩, fun c => ⟨ob, by omega, ?_⟩, fun c => ⟨by omega, ?_⟩, fun c => ?_, fun c => ⟨by omega, ?_⟩, fun c => ?_⟩
  · rw [B.1.1]; subst c; exact k
  · rw [B.2.1.1]; subst c; exact k
  · rw [B.2.2.1.1]; subst c; exact k
  · rw [B.2.2.2.2.1]; subst c; exact k
  · rw [show h 43 a = h 104 (9 + a) from (S.2.2.1 a g.1 (by omega)).1]; subst c; exact k
  · refine s_lyingOf ob_40 ⟨g.1, by omega⟩ ?_
    rw [lyOf_eq R G S ⟨g.1, by omega⟩]; subst c; exact k
  · rw [show h 44 a = h 104 (19 + a) from (S.2.2.1 a g.1 (by omega)).2]; subst c; exact k
  · repeat rw [if_neg (by omega)] at k
    exact k
theorem y_bank (R : RR h r) {a b : Int} (ha : inR a) (hb : inR b) (k : K (bankF h a b) h) : C_X12_bank w a b h K := by
  have hn := R.nb
  have hr := R.nr
  have no : ¬ (0 ≤ a ∧ a < nbN h) → K (-1) h := fun g => by rw [bankF_no g] at k; exact k
  refine c_X12_bank ⟨ha, ⟨by omega, by omega⟩, ⟨by omega, by omega⟩, fun c => no (by omega), fun c => ⟨⟨by omega, by omega⟩, ⟨by omega, by omega⟩, fun c2 => no (by omega), fun c2 => ?_⟩⟩
  rw [bankF_in ⟨by omega, by omega⟩] at k
  refine ⟨hb, fun c => ⟨by omega, ?_⟩, fun c => ⟨by omega, ?_⟩, fun c => ⟨by omega, ?_⟩, fun c => ⟨by omega, ?_⟩, fun c => ⟨by omega, ?_⟩, fun c => ?_, fun c => ⟨by omega, ?_⟩, fun c => ?_⟩
  · subst c; exact k
  · subst c; exact k
  · subst c; exact k
  · subst c; exact k
  · subst c; exact k
  · exact m_lyingOf hr.1 hr.2.1 ⟨by omega, by omega⟩ (by subst c; exact k)
  · subst c; exact k
  · repeat rw [if_neg (by omega)] at k
    exact k
/-! lies, share, tint -/
def liesF (h : Hp) (a b : Int) : Int := if (0 ≤ a ∧ a < nrN h) ∧ (0 ≤ b ∧ b < nbN h) then h 104 (29 + 10 * a + b) else -1
def shareF (h : Hp) (a b : Int) : Int := if (0 ≤ a ∧ a < nrN h) ∧ (0 ≤ b ∧ b < h 93 3) then (if lA h a = 0 then 0 else 1000 * oA h a b / lA h a) else -1
def tintF (h : Hp) (a b : Int) : Int := if (0 ≤ a ∧ a < nrN h) ∧ (0 ≤ b ∧ b < h 93 4) then cA h a b else -1
theorem x_lies (Q : Q0 h) {a b : Int} (ha : inR a) (hb : inR b) (k : K (liesF h a b) h) : C_X11_lies w a b h K := by
  obtain ⟨R, G, S⟩ := Q
  have ob := R.ob
  have hn := R.nb
  have hr := R.nr
  have no : ¬ ((0 ≤ a ∧ a < nrN h) ∧ (0 ≤ b ∧ b < nbN h)) → K (-1) h := fun g => by unfold liesF at k; rw [if_neg g] at k; exact k
  refine c_X11_lies ⟨ob, x_hasReach R ha (fun g _ => ?_) (fun g _ => ?_)⟩
  · refine ⟨fun c => absurd c (by decide), fun _ => ⟨ob, x_hasBank R hb (fun g2 _ => ?_) (fun g2 _ => ?_)⟩⟩
    · unfold liesF at k; rw [if_pos ⟨g, g2⟩] at k
      have e := S.2.2.2 a b g.1 (by omega) g2.1 (by omega)
      refine ⟨fun _ => ⟨by omega, ?_⟩, fun c => absurd (by decide) c⟩
      rw [show h 42 (a * 10 + b) = h 104 (29 + 10 * a + b) from e]; exact k
    · exact ⟨fun c => absurd rfl c, fun _ => no (fun q => g2 q.2)⟩
  · exact ⟨fun _ => no (fun q => g q.1), fun c => absurd rfl c⟩
theorem y_lies (R : RR h r) {a b : Int} (ha : inR a) (hb : inR b) (k : K (liesF h a b) h) : C_X12_lies w a b h K := by
  have hn := R.nb
  have hr := R.nr
  have no : ¬ ((0 ≤ a ∧ a < nrN h) ∧ (0 ≤ b ∧ b < nbN h)) → K (-1) h := fun g => by unfold liesF at k; rw [if_neg g] at k; exact k
  have ye : ((0 ≤ a ∧ a < nrN h) ∧ (0 ≤ b ∧ b < nbN h)) → K (h 104 (29 + 10 * a + b)) h := fun g => by unfold liesF at k; rw [if_pos g] at k; exact k
  refine c_X12_lies ?_
  repeat' (first | exact ha | exact hb | exact ⟨by omega, by omega⟩ | refine ⟨?_, ?_⟩ | intro _)
  all_goals first | exact no (by omega) | exact ye (by omega)
theorem x_share (Q : Q0 h) {a b : Int} (ha : inR a) (hb : inR b) (k : K (shareF h a b) h) : C_X11_share w a b h K := by
  obtain ⟨R, G, S⟩ := Q
  have ob := R.ob
  have hr := R.nr
  have ho := R.ow
  have no : ¬ ((0 ≤ a ∧ a < nrN h) ∧ (0 ≤ b ∧ b < h 93 3)) → K (-1) h := fun g => by unfold shareF at k; rw [if_neg g] at k; exact k
  refine c_X11_share ⟨ob, x_hasReach R ha (fun g _ => ⟨fun c => absurd c (by decide), fun _ => ⟨ob, hb, fun c => no (by omega), fun c => ⟨hb, ⟨by omega, by omega⟩, fun c2 => no (by omega), fun c2 => ⟨ob, ?_⟩⟩⟩⟩) (fun g _ => ⟨fun _ => no (fun q => g q.1), fun c => absurd rfl c⟩)⟩
  have hl := lA_b R G (x := a) ⟨g.1, by omega⟩
  have hoA := oA_b R G (x := a) (a := b) ⟨g.1, by omega⟩
  refine x_owned R G S ob_40 ⟨g.1, by omega⟩ hb (x_lyingIn R G S ob_40 ⟨g.1, by omega⟩ ⟨⟨by omega, by omega⟩, fun c3 => ⟨by omega, by omega, ?_⟩, fun c3 => ?_⟩)
  · unfold shareF at k; rw [if_pos ⟨g, by omega⟩, if_neg (by omega)] at k; exact k
  · unfold shareF at k; rw [if_pos ⟨g, by omega⟩, if_pos (by omega)] at k; exact k
theorem y_share (Q : Q0 h) {a b : Int} (ha : inR a) (hb : inR b) (k : K (shareF h a b) h) : C_X12_share w a b h K := by
  obtain ⟨R, G, S⟩ := Q
  have hr := R.nr
  have ho := R.ow
  have no : ¬ ((0 ≤ a ∧ a < nrN h) ∧ (0 ≤ b ∧ b < h 93 3)) → K (-1) h := fun g => by unfold shareF at k; rw [if_neg g] at k; exact k
  refine c_X12_share ⟨ha, ⟨by omega, by omega⟩, ⟨by omega, by omega⟩, fun c => no (by omega), fun c => ⟨⟨by omega, by omega⟩, ⟨by omega, by omega⟩, fun c2 => no (by omega), fun c2 => ⟨hb, ⟨by omega, by omega⟩, ⟨by omega, by omega⟩, fun c3 => no (by omega), fun c3 => ⟨⟨by omega, by omega⟩, ⟨by omega, by omega⟩, fun c4 => no (by omega), fun c4 => ?_⟩⟩⟩⟩
  have hl := lA_b R G (x := a) ⟨by omega, by omega⟩
  have hoA := oA_b R G (x := a) (a := b) ⟨by omega, by omega⟩
  refine y_liesAll R ⟨by omega, by omega⟩ ⟨⟨by omega, by omega⟩, fun c5 => y_ownersIn R ⟨by omega, by omega⟩ hb ⟨by omega, by omega, ?_⟩, fun c5 => ?_⟩
  · unfold shareF at k; rw [if_pos (by omega), if_neg (by omega)] at k; exact k
  · unfold shareF at k; rw [if_pos (by omega), if_pos (by omega)] at k; exact k
theorem x_tint (Q : Q0 h) {a b : Int} (ha : inR a) (hb : inR b) (k : K (tintF h a b) h) : C_X11_tint w a b h K := by
  obtain ⟨R, G, S⟩ := Q
  have ob := R.ob
  have hr := R.nr
  have ho := R.co
  have no : ¬ ((0 ≤ a ∧ a < nrN h) ∧ (0 ≤ b ∧ b < h 93 4)) → K (-1) h := fun g => by unfold tintF at k; rw [if_neg g] at k; exact k
  refine c_X11_tint ⟨ob, x_hasReach R ha (fun g _ => ⟨fun c => absurd c (by decide), fun _ => ⟨ob, hb, fun c => no (by omega), fun c => ⟨hb, ⟨by omega, by omega⟩, fun c2 => no (by omega), fun c2 => ⟨ob, ?_⟩⟩⟩⟩) (fun g _ => ⟨fun _ => no (fun q => g q.1), fun c => absurd rfl c⟩)⟩
  refine x_coloured R G S ob_40 ⟨g.1, by omega⟩ hb ?_
  unfold tintF at k; rw [if_pos ⟨g, by omega⟩] at k; exact k
theorem y_tint (Q : Q0 h) {a b : Int} (ha : inR a) (hb : inR b) (k : K (tintF h a b) h) : C_X12_tint w a b h K := by
  obtain ⟨R, G, S⟩ := Q
  have hr := R.nr
  have ho := R.co
  have no : ¬ ((0 ≤ a ∧ a < nrN h) ∧ (0 ≤ b ∧ b < h 93 4)) → K (-1) h := fun g => by unfold tintF at k; rw [if_neg g] at k; exact k
  refine c_X12_tint ⟨ha, ⟨by omega, by omega⟩, ⟨by omega, by omega⟩, fun c => no (by omega), fun c => ⟨⟨by omega, by omega⟩, ⟨by omega, by omega⟩, fun c2 => no (by omega), fun c2 => ⟨hb, ⟨by omega, by omega⟩, ⟨by omega, by omega⟩, fun c3 => no (by omega), fun c3 => ⟨⟨by omega, by omega⟩, ⟨by omega, by omega⟩, fun c4 => no (by omega), fun c4 => ?_⟩⟩⟩⟩
  refine y_tintOf R ⟨by omega, by omega⟩ hb ?_
  unfold tintF at k; rw [if_pos (by omega)] at k; exact k
end L2C
