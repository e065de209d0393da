theorem catl (w : Wd) {v : Vl} (h : isL v = false) : (tv w v).category = 1 := by
  have := cat_isL w v
  rw [h] at this
  rcases lv_cat (tv w v) with q | q
  · exact q
  · rw [q] at this; cases this
section ROWS2
variable {w : Wd} {fz : Bool} {M : Mt} {d n1 n pc : Nat} {lv : List (Nat × Vl)} {st : List Vl} {h : Hp} {K : Int → Hp → Prop}
theorem J_icmp_eq (q : Nat) (hp : pc + 3 = q) {x y off : Int} (tgt : Nat) (hx : inR x) (hy : inR y) (hd : decode M.2.1 pc = .ok (.if_icmp .eq off, 3)) (ht : (pc : Int) + off = (tgt : Int)) (kt : x = y → JG w fz M d n1 n tgt lv st h K) (kf : ¬ (x = y) → JG w fz M d n1 n q lv st h K) : JG w fz M d n1 n pc lv (vI y :: vI x :: st) h K := by
  subst hp
  intro p l e R s m args below meth c H locs ls cells slots Q F hR hr hW hS hl
  have ei := i32_eq hx hy
  by_cases hP : x = y
  · exact lv_icmp_eq F.1 F.2.1 hd ht (fun _ => kt hP p l e R s m args below meth c H locs ls cells slots Q F hR hr hW hS hl) (fun q => by first | exact absurd (ei.mpr hP) q | exact absurd q (ei.mpr hP))
  · exact lv_icmp_eq F.1 F.2.1 hd ht (fun q => absurd (ei.mp q) hP) (fun _ => kf hP p l e R s m args below meth c H locs ls cells slots Q F hR hr hW hS hl)
theorem J_if_eq (q : Nat) (hp : pc + 3 = q) {x off : Int} (tgt : Nat) (hx : inR x) (hd : decode M.2.1 pc = .ok (.ifCond .eq off, 3)) (ht : (pc : Int) + off = (tgt : Int)) (kt : x = 0 → JG w fz M d n1 n tgt lv st h K) (kf : ¬ (x = 0) → JG w fz M d n1 n q lv st h K) : JG w fz M d n1 n pc lv (vI x :: st) h K := by
  subst hp
  intro p l e R s m args below meth c H locs ls cells slots Q F hR hr hW hS hl
  have hy : inR 0 := ⟨by decide, by decide⟩
  have ei := i32_eq hx hy
  by_cases hP : x = 0
  · exact lv_if_eq F.1 F.2.1 hd ht (fun _ => kt hP p l e R s m args below meth c H locs ls cells slots Q F hR hr hW hS hl) (fun q => by first | exact absurd (ei.mpr hP) q | exact absurd q (ei.mpr hP))
  · exact lv_if_eq F.1 F.2.1 hd ht (fun q => absurd (ei.mp q) hP) (fun _ => kf hP p l e R s m args below meth c H locs ls cells slots Q F hR hr hW hS hl)
theorem J_icmp_ne (q : Nat) (hp : pc + 3 = q) {x y off : Int} (tgt : Nat) (hx : inR x) (hy : inR y) (hd : decode M.2.1 pc = .ok (.if_icmp .ne off, 3)) (ht : (pc : Int) + off = (tgt : Int)) (kt : x ≠ y → JG w fz M d n1 n tgt lv st h K) (kf : ¬ (x ≠ y) → JG w fz M d n1 n q lv st h K) : JG w fz M d n1 n pc lv (vI y :: vI x :: st) h K := by
  subst hp
  intro p l e R s m args below meth c H locs ls cells slots Q F hR hr hW hS hl
  have ei := not_congr (i32_eq hx hy)
  by_cases hP : x ≠ y
  · exact lv_icmp_ne F.1 F.2.1 hd ht (fun _ => kt hP p l e R s m args below meth c H locs ls cells slots Q F hR hr hW hS hl) (fun q => by first | exact absurd (ei.mpr hP) q | exact absurd q (ei.mpr hP))
  · exact lv_icmp_ne F.1 F.2.1 hd ht (fun q => absurd (ei.mp q) hP) (fun _ => kf hP p l e R s m args below meth c H locs ls cells slots Q F hR hr hW hS hl)
theorem J_if_ne (q : Nat) (hp : pc + 3 = q) {x off : Int} (tgt : Nat) (hx : inR x) (hd : decode M.2.1 pc = .ok (.ifCond .ne off, 3)) (ht : (pc : Int) + off = (tgt : Int)) (kt : x ≠ 0 → JG w fz M d n1 n tgt lv st h K) (kf : ¬ (x ≠ 0) → JG w fz M d n1 n q lv st h K) : JG w fz M d n1 n pc lv (vI x :: st) h K := by
  subst hp
  intro p l e R s m args below meth c H locs ls cells slots Q F hR hr hW hS hl
  have hy : inR 0 := ⟨by decide, by decide⟩
  have ei := not_congr (i32_eq hx hy)
  by_cases hP : x ≠ 0
  · exact lv_if_ne F.1 F.2.1 hd ht (fun _ => kt hP p l e R s m args below meth c H locs ls cells slots Q F hR hr hW hS hl) (fun q => by first | exact absurd (ei.mpr hP) q | exact absurd q (ei.mpr hP))
  · exact lv_if_ne F.1 F.2.1 hd ht (fun q => absurd (ei.mp q) hP) (fun _ => kf hP p l e R s m args below meth c H locs ls cells slots Q F hR hr hW hS hl)
theorem J_icmp_lt (q : Nat) (hp : pc + 3 = q) {x y off : Int} (tgt : Nat) (hx : inR x) (hy : inR y) (hd : decode M.2.1 pc = .ok (.if_icmp .lt off, 3)) (ht : (pc : Int) + off = (tgt : Int)) (kt : x < y → JG w fz M d n1 n tgt lv st h K) (kf : ¬ (x < y) → JG w fz M d n1 n q lv st h K) : JG w fz M d n1 n pc lv (vI y :: vI x :: st) h K := by
  subst hp
  intro p l e R s m args below meth c H locs ls cells slots Q F hR hr hW hS hl
  have ei := i32_lt hx hy
  by_cases hP : x < y
  · exact lv_icmp_lt F.1 F.2.1 hd ht (fun _ => kt hP p l e R s m args below meth c H locs ls cells slots Q F hR hr hW hS hl) (fun q => by first | exact absurd (ei.mpr hP) q | exact absurd q (ei.mpr hP))
  · exact lv_icmp_lt F.1 F.2.1 hd ht (fun q => absurd (ei.mp q) hP) (fun _ => kf hP p l e R s m args below meth c H locs ls cells slots Q F hR hr hW hS hl)
theorem J_if_lt (q : Nat) (hp : pc + 3 = q) {x off : Int} (tgt : Nat) (hx : inR x) (hd : decode M.2.1 pc = .ok (.ifCond .lt off, 3)) (ht : (pc : Int) + off = (tgt : Int)) (kt : x < 0 → JG w fz M d n1 n tgt lv st h K) (kf : ¬ (x < 0) → JG w fz M d n1 n q lv st h K) : JG w fz M d n1 n pc lv (vI x :: st) h K := by
  subst hp
  intro p l e R s m args below meth c H locs ls cells slots Q F hR hr hW hS hl
  have hy : inR 0 := ⟨by decide, by decide⟩
  have ei := i32_lt hx hy
  by_cases hP : x < 0
  · exact lv_if_lt F.1 F.2.1 hd ht (fun _ => kt hP p l e R s m args below meth c H locs ls cells slots Q F hR hr hW hS hl) (fun q => by first | exact absurd (ei.mpr hP) q | exact absurd q (ei.mpr hP))
  · exact lv_if_lt F.1 F.2.1 hd ht (fun q => absurd (ei.mp q) hP) (fun _ => kf hP p l e R s m args below meth c H locs ls cells slots Q F hR hr hW hS hl)
theorem J_icmp_ge (q : Nat) (hp : pc + 3 = q) {x y off : Int} (tgt : Nat) (hx : inR x) (hy : inR y) (hd : decode M.2.1 pc = .ok (.if_icmp .ge off, 3)) (ht : (pc : Int) + off = (tgt : Int)) (kt : x ≥ y → JG w fz M d n1 n tgt lv st h K) (kf : ¬ (x ≥ y) → JG w fz M d n1 n q lv st h K) : JG w fz M d n1 n pc lv (vI y :: vI x :: st) h K := by
  subst hp
  intro p l e R s m args below meth c H locs ls cells slots Q F hR hr hW hS hl
  have ei := i32_le hy hx
  by_cases hP : x ≥ y
  · exact lv_icmp_ge F.1 F.2.1 hd ht (fun _ => kt hP p l e R s m args below meth c H locs ls cells slots Q F hR hr hW hS hl) (fun q => by first | exact absurd (ei.mpr hP) q | exact absurd q (ei.mpr hP))
  · exact lv_icmp_ge F.1 F.2.1 hd ht (fun q => absurd (ei.mp q) hP) (fun _ => kf hP p l e R s m args below meth c H locs ls cells slots Q F hR hr hW hS hl)
theorem J_if_ge (q : Nat) (hp : pc + 3 = q) {x off : Int} (tgt : Nat) (hx : inR x) (hd : decode M.2.1 pc = .ok (.ifCond .ge off, 3)) (ht : (pc : Int) + off = (tgt : Int)) (kt : x ≥ 0 → JG w fz M d n1 n tgt lv st h K) (kf : ¬ (x ≥ 0) → JG w fz M d n1 n q lv st h K) : JG w fz M d n1 n pc lv (vI x :: st) h K := by
  subst hp
  intro p l e R s m args below meth c H locs ls cells slots Q F hR hr hW hS hl
  have hy : inR 0 := ⟨by decide, by decide⟩
  have ei := i32_le hy hx
  by_cases hP : x ≥ 0
  · exact lv_if_ge F.1 F.2.1 hd ht (fun _ => kt hP p l e R s m args below meth c H locs ls cells slots Q F hR hr hW hS hl) (fun q => by first | exact absurd (ei.mpr hP) q | exact absurd q (ei.mpr hP))
  · exact lv_if_ge F.1 F.2.1 hd ht (fun q => absurd (ei.mp q) hP) (fun _ => kf hP p l e R s m args below meth c H locs ls cells slots Q F hR hr hW hS hl)
theorem J_icmp_gt (q : Nat) (hp : pc + 3 = q) {x y off : Int} (tgt : Nat) (hx : inR x) (hy : inR y) (hd : decode M.2.1 pc = .ok (.if_icmp .gt off, 3)) (ht : (pc : Int) + off = (tgt : Int)) (kt : x > y → JG w fz M d n1 n tgt lv st h K) (kf : ¬ (x > y) → JG w fz M d n1 n q lv st h K) : JG w fz M d n1 n pc lv (vI y :: vI x :: st) h K := by
  subst hp
  intro p l e R s m args below meth c H locs ls cells slots Q F hR hr hW hS hl
  have ei := i32_lt hy hx
  by_cases hP : x > y
  · exact lv_icmp_gt F.1 F.2.1 hd ht (fun _ => kt hP p l e R s m args below meth c H locs ls cells slots Q F hR hr hW hS hl) (fun q => by first | exact absurd (ei.mpr hP) q | exact absurd q (ei.mpr hP))
  · exact lv_icmp_gt F.1 F.2.1 hd ht (fun q => absurd (ei.mp q) hP) (fun _ => kf hP p l e R s m args below meth c H locs ls cells slots Q F hR hr hW hS hl)
theorem J_if_gt (q : Nat) (hp : pc + 3 = q) {x off : Int} (tgt : Nat) (hx : inR x) (hd : decode M.2.1 pc = .ok (.ifCond .gt off, 3)) (ht : (pc : Int) + off = (tgt : Int)) (kt : x > 0 → JG w fz M d n1 n tgt lv st h K) (kf : ¬ (x > 0) → JG w fz M d n1 n q lv st h K) : JG w fz M d n1 n pc lv (vI x :: st) h K := by
  subst hp
  intro p l e R s m args below meth c H locs ls cells slots Q F hR hr hW hS hl
  have hy : inR 0 := ⟨by decide, by decide⟩
  have ei := i32_lt hy hx
  by_cases hP : x > 0
  · exact lv_if_gt F.1 F.2.1 hd ht (fun _ => kt hP p l e R s m args below meth c H locs ls cells slots Q F hR hr hW hS hl) (fun q => by first | exact absurd (ei.mpr hP) q | exact absurd q (ei.mpr hP))
  · exact lv_if_gt F.1 F.2.1 hd ht (fun q => absurd (ei.mp q) hP) (fun _ => kf hP p l e R s m args below meth c H locs ls cells slots Q F hR hr hW hS hl)
theorem J_icmp_le (q : Nat) (hp : pc + 3 = q) {x y off : Int} (tgt : Nat) (hx : inR x) (hy : inR y) (hd : decode M.2.1 pc = .ok (.if_icmp .le off, 3)) (ht : (pc : Int) + off = (tgt : Int)) (kt : x ≤ y → JG w fz M d n1 n tgt lv st h K) (kf : ¬ (x ≤ y) → JG w fz M d n1 n q lv st h K) : JG w fz M d n1 n pc lv (vI y :: vI x :: st) h K := by
  subst hp
  intro p l e R s m args below meth c H locs ls cells slots Q F hR hr hW hS hl
  have ei := i32_le hx hy
  by_cases hP : x ≤ y
  · exact lv_icmp_le F.1 F.2.1 hd ht (fun _ => kt hP p l e R s m args below meth c H locs ls cells slots Q F hR hr hW hS hl) (fun q => by first | exact absurd (ei.mpr hP) q | exact absurd q (ei.mpr hP))
  · exact lv_icmp_le F.1 F.2.1 hd ht (fun q => absurd (ei.mp q) hP) (fun _ => kf hP p l e R s m args below meth c H locs ls cells slots Q F hR hr hW hS hl)
theorem J_if_le (q : Nat) (hp : pc + 3 = q) {x off : Int} (tgt : Nat) (hx : inR x) (hd : decode M.2.1 pc = .ok (.ifCond .le off, 3)) (ht : (pc : Int) + off = (tgt : Int)) (kt : x ≤ 0 → JG w fz M d n1 n tgt lv st h K) (kf : ¬ (x ≤ 0) → JG w fz M d n1 n q lv st h K) : JG w fz M d n1 n pc lv (vI x :: st) h K := by
  subst hp
  intro p l e R s m args below meth c H locs ls cells slots Q F hR hr hW hS hl
  have hy : inR 0 := ⟨by decide, by decide⟩
  have ei := i32_le hx hy
  by_cases hP : x ≤ 0
  · exact lv_if_le F.1 F.2.1 hd ht (fun _ => kt hP p l e R s m args below meth c H locs ls cells slots Q F hR hr hW hS hl) (fun q => by first | exact absurd (ei.mpr hP) q | exact absurd q (ei.mpr hP))
  · exact lv_if_le F.1 F.2.1 hd ht (fun q => absurd (ei.mp q) hP) (fun _ => kf hP p l e R s m args below meth c H locs ls cells slots Q F hR hr hW hS hl)
theorem lgc {x y : Int} (hx : inL x) (hy : inL y) : lg_cmp (Int64.ofInt x) (Int64.ofInt y) = if x > y then 1 else if x = y then 0 else -1 := by
  unfold lg_cmp
  simp only [gt_iff_lt, i64_lt hy hx, i64_eq hx hy]
theorem J_lcmp_lt (q : Nat) (hp : pc + 4 = q) {x y off : Int} (tgt : Nat) (hx : inL x) (hy : inL y) (hd : decode M.2.1 pc = .ok (.lcmp, 1)) (hd2 : decode M.2.1 (pc + 1) = .ok (.ifCond .lt off, 3)) (ht : ((pc + 1 : Nat) : Int) + off = (tgt : Int)) (kt : x < y → JG w fz M d n1 n tgt lv st h K) (kf : ¬ (x < y) → JG w fz M d n1 n q lv st h K) : JG w fz M d n1 n pc lv (vL y :: vL x :: st) h K := by
  subst hp
  intro p l e R s m args below meth c H locs ls cells slots Q F hR hr hW hS hl
  refine W.lcmp F.1 F.2.1 hd ?_
  rw [lgc hx hy]
  have ei : ((if x > y then (1 : Int32) else if x = y then 0 else -1) < 0) ↔ x < y := by
    rcases Int.lt_trichotomy x y with g | g | g
    · rw [if_neg (by omega), if_neg (by omega)]; exact ⟨fun q => by first | omega | exact absurd q (by decide), fun q => by first | decide | exact absurd q (by omega)⟩
    · rw [if_neg (by omega), if_pos g]; exact ⟨fun q => by first | omega | exact absurd q (by decide), fun q => by first | decide | exact absurd q (by omega)⟩
    · rw [if_pos g]; exact ⟨fun q => by first | omega | exact absurd q (by decide), fun q => by first | decide | exact absurd q (by omega)⟩
  by_cases hP : x < y
  · exact lv_if_lt F.1 F.2.1 hd2 ht (fun _ => kt hP p l e R s m args below meth c H locs ls cells slots Q F hR hr hW hS hl) (fun q => by first | exact absurd (ei.mpr hP) q | exact absurd q (ei.mpr hP))
  · exact lv_if_lt F.1 F.2.1 hd2 ht (fun q => absurd (ei.mp q) hP) (fun _ => kf hP p l e R s m args below meth c H locs ls cells slots Q F hR hr hW hS hl)
theorem J_lcmp_ge (q : Nat) (hp : pc + 4 = q) {x y off : Int} (tgt : Nat) (hx : inL x) (hy : inL y) (hd : decode M.2.1 pc = .ok (.lcmp, 1)) (hd2 : decode M.2.1 (pc + 1) = .ok (.ifCond .ge off, 3)) (ht : ((pc + 1 : Nat) : Int) + off = (tgt : Int)) (kt : x ≥ y → JG w fz M d n1 n tgt lv st h K) (kf : ¬ (x ≥ y) → JG w fz M d n1 n q lv st h K) : JG w fz M d n1 n pc lv (vL y :: vL x :: st) h K := by
  subst hp
  intro p l e R s m args below meth c H locs ls cells slots Q F hR hr hW hS hl
  refine W.lcmp F.1 F.2.1 hd ?_
  rw [lgc hx hy]
  have ei : ((if x > y then (1 : Int32) else if x = y then 0 else -1) ≥ 0) ↔ x ≥ y := by
    rcases Int.lt_trichotomy x y with g | g | g
    · rw [if_neg (by omega), if_neg (by omega)]; exact ⟨fun q => by first | omega | exact absurd q (by decide), fun q => by first | decide | exact absurd q (by omega)⟩
    · rw [if_neg (by omega), if_pos g]; exact ⟨fun q => by first | omega | exact absurd q (by decide), fun q => by first | decide | exact absurd q (by omega)⟩
    · rw [if_pos g]; exact ⟨fun q => by first | omega | exact absurd q (by decide), fun q => by first | decide | exact absurd q (by omega)⟩
  by_cases hP : x ≥ y
  · exact lv_if_ge F.1 F.2.1 hd2 ht (fun _ => kt hP p l e R s m args below meth c H locs ls cells slots Q F hR hr hW hS hl) (fun q => by first | exact absurd (ei.mpr hP) q | exact absurd q (ei.mpr hP))
  · exact lv_if_ge F.1 F.2.1 hd2 ht (fun q => absurd (ei.mp q) hP) (fun _ => kf hP p l e R s m args below meth c H locs ls cells slots Q F hR hr hW hS hl)
theorem J_lcmp_gt (q : Nat) (hp : pc + 4 = q) {x y off : Int} (tgt : Nat) (hx : inL x) (hy : inL y) (hd : decode M.2.1 pc = .ok (.lcmp, 1)) (hd2 : decode M.2.1 (pc + 1) = .ok (.ifCond .gt off, 3)) (ht : ((pc + 1 : Nat) : Int) + off = (tgt : Int)) (kt : x > y → JG w fz M d n1 n tgt lv st h K) (kf : ¬ (x > y) → JG w fz M d n1 n q lv st h K) : JG w fz M d n1 n pc lv (vL y :: vL x :: st) h K := by
  subst hp
  intro p l e R s m args below meth c H locs ls cells slots Q F hR hr hW hS hl
  refine W.lcmp F.1 F.2.1 hd ?_
  rw [lgc hx hy]
  have ei : ((if x > y then (1 : Int32) else if x = y then 0 else -1) > 0) ↔ x > y := by
    rcases Int.lt_trichotomy x y with g | g | g
    · rw [if_neg (by omega), if_neg (by omega)]; exact ⟨fun q => by first | omega | exact absurd q (by decide), fun q => by first | decide | exact absurd q (by omega)⟩
    · rw [if_neg (by omega), if_pos g]; exact ⟨fun q => by first | omega | exact absurd q (by decide), fun q => by first | decide | exact absurd q (by omega)⟩
    · rw [if_pos g]; exact ⟨fun q => by first | omega | exact absurd q (by decide), fun q => by first | decide | exact absurd q (by omega)⟩
  by_cases hP : x > y
  · exact lv_if_gt F.1 F.2.1 hd2 ht (fun _ => kt hP p l e R s m args below meth c H locs ls cells slots Q F hR hr hW hS hl) (fun q => by first | exact absurd (ei.mpr hP) q | exact absurd q (ei.mpr hP))
  · exact lv_if_gt F.1 F.2.1 hd2 ht (fun q => absurd (ei.mp q) hP) (fun _ => kf hP p l e R s m args below meth c H locs ls cells slots Q F hR hr hW hS hl)
theorem J_lcmp_le (q : Nat) (hp : pc + 4 = q) {x y off : Int} (tgt : Nat) (hx : inL x) (hy : inL y) (hd : decode M.2.1 pc = .ok (.lcmp, 1)) (hd2 : decode M.2.1 (pc + 1) = .ok (.ifCond .le off, 3)) (ht : ((pc + 1 : Nat) : Int) + off = (tgt : Int)) (kt : x ≤ y → JG w fz M d n1 n tgt lv st h K) (kf : ¬ (x ≤ y) → JG w fz M d n1 n q lv st h K) : JG w fz M d n1 n pc lv (vL y :: vL x :: st) h K := by
  subst hp
  intro p l e R s m args below meth c H locs ls cells slots Q F hR hr hW hS hl
  refine W.lcmp F.1 F.2.1 hd ?_
  rw [lgc hx hy]
  have ei : ((if x > y then (1 : Int32) else if x = y then 0 else -1) ≤ 0) ↔ x ≤ y := by
    rcases Int.lt_trichotomy x y with g | g | g
    · rw [if_neg (by omega), if_neg (by omega)]; exact ⟨fun q => by first | omega | exact absurd q (by decide), fun q => by first | decide | exact absurd q (by omega)⟩
    · rw [if_neg (by omega), if_pos g]; exact ⟨fun q => by first | omega | exact absurd q (by decide), fun q => by first | decide | exact absurd q (by omega)⟩
    · rw [if_pos g]; exact ⟨fun q => by first | omega | exact absurd q (by decide), fun q => by first | decide | exact absurd q (by omega)⟩
  by_cases hP : x ≤ y
  · exact lv_if_le F.1 F.2.1 hd2 ht (fun _ => kt hP p l e R s m args below meth c H locs ls cells slots Q F hR hr hW hS hl) (fun q => by first | exact absurd (ei.mpr hP) q | exact absurd q (ei.mpr hP))
  · exact lv_if_le F.1 F.2.1 hd2 ht (fun q => absurd (ei.mp q) hP) (fun _ => kf hP p l e R s m args below meth c H locs ls cells slots Q F hR hr hW hS hl)
theorem J_lcmp_eq (q : Nat) (hp : pc + 4 = q) {x y off : Int} (tgt : Nat) (hx : inL x) (hy : inL y) (hd : decode M.2.1 pc = .ok (.lcmp, 1)) (hd2 : decode M.2.1 (pc + 1) = .ok (.ifCond .eq off, 3)) (ht : ((pc + 1 : Nat) : Int) + off = (tgt : Int)) (kt : x = y → JG w fz M d n1 n tgt lv st h K) (kf : ¬ (x = y) → JG w fz M d n1 n q lv st h K) : JG w fz M d n1 n pc lv (vL y :: vL x :: st) h K := by
  subst hp
  intro p l e R s m args below meth c H locs ls cells slots Q F hR hr hW hS hl
  refine W.lcmp F.1 F.2.1 hd ?_
  rw [lgc hx hy]
  have ei : ((if x > y then (1 : Int32) else if x = y then 0 else -1) = 0) ↔ x = y := by
    rcases Int.lt_trichotomy x y with g | g | g
    · rw [if_neg (by omega), if_neg (by omega)]; exact ⟨fun q => by first | omega | exact absurd q (by decide), fun q => by first | decide | exact absurd q (by omega)⟩
    · rw [if_neg (by omega), if_pos g]; exact ⟨fun q => by first | omega | exact absurd q (by decide), fun q => by first | decide | exact absurd q (by omega)⟩
    · rw [if_pos g]; exact ⟨fun q => by first | omega | exact absurd q (by decide), fun q => by first | decide | exact absurd q (by omega)⟩
  by_cases hP : x = y
  · exact lv_if_eq F.1 F.2.1 hd2 ht (fun _ => kt hP p l e R s m args below meth c H locs ls cells slots Q F hR hr hW hS hl) (fun q => by first | exact absurd (ei.mpr hP) q | exact absurd q (ei.mpr hP))
  · exact lv_if_eq F.1 F.2.1 hd2 ht (fun q => absurd (ei.mp q) hP) (fun _ => kf hP p l e R s m args below meth c H locs ls cells slots Q F hR hr hW hS hl)
theorem J_lcmp_ne (q : Nat) (hp : pc + 4 = q) {x y off : Int} (tgt : Nat) (hx : inL x) (hy : inL y) (hd : decode M.2.1 pc = .ok (.lcmp, 1)) (hd2 : decode M.2.1 (pc + 1) = .ok (.ifCond .ne off, 3)) (ht : ((pc + 1 : Nat) : Int) + off = (tgt : Int)) (kt : x ≠ y → JG w fz M d n1 n tgt lv st h K) (kf : ¬ (x ≠ y) → JG w fz M d n1 n q lv st h K) : JG w fz M d n1 n pc lv (vL y :: vL x :: st) h K := by
  subst hp
  intro p l e R s m args below meth c H locs ls cells slots Q F hR hr hW hS hl
  refine W.lcmp F.1 F.2.1 hd ?_
  rw [lgc hx hy]
  have ei : ((if x > y then (1 : Int32) else if x = y then 0 else -1) ≠ 0) ↔ x ≠ y := by
    rcases Int.lt_trichotomy x y with g | g | g
    · rw [if_neg (by omega), if_neg (by omega)]; exact ⟨fun q => by first | omega | exact absurd q (by decide), fun q => by first | decide | exact absurd q (by omega)⟩
    · rw [if_neg (by omega), if_pos g]; exact ⟨fun q => by first | omega | exact absurd q (by decide), fun q => by first | decide | exact absurd q (by omega)⟩
    · rw [if_pos g]; exact ⟨fun q => by first | omega | exact absurd q (by decide), fun q => by first | decide | exact absurd q (by omega)⟩
  by_cases hP : x ≠ y
  · exact lv_if_ne F.1 F.2.1 hd2 ht (fun _ => kt hP p l e R s m args below meth c H locs ls cells slots Q F hR hr hW hS hl) (fun q => by first | exact absurd (ei.mpr hP) q | exact absurd q (ei.mpr hP))
  · exact lv_if_ne F.1 F.2.1 hd2 ht (fun q => absurd (ei.mp q) hP) (fun _ => kf hP p l e R s m args below meth c H locs ls cells slots Q F hR hr hW hS hl)
theorem J_goto {off : Int} (tgt : Nat) (hd : decode M.2.1 pc = .ok (.goto off, 3)) (ht : (pc : Int) + off = (tgt : Int)) (k : JG w fz M d n1 n tgt lv st h K) : JG w fz M d n1 n pc lv st h K := by
  intro p l e R s m args below meth c H locs ls cells slots Q F hR hr hW hS hl
  exact lv_goto F.1 F.2.1 hd ht (k p l e R s m args below meth c H locs ls cells slots Q F hR hr hW hS hl)
theorem J_dup (q : Nat) (hp : pc + 1 = q) {v : Vl} (hv : isL v = false) (hd : decode M.2.1 pc = .ok (.dup, 1)) (k : JG w fz M d n1 n q lv (v :: v :: st) h K) : JG w fz M d n1 n pc lv (v :: st) h K := by
  subst hp
  intro p l e R s m args below meth c H locs ls cells slots Q F hR hr hW hS hl
  exact lv_dup F.1 F.2.1 hd (catl w hv) (k p l e R s m args below meth c H locs ls cells slots Q F hR hr hW hS hl)
theorem J_pop (q : Nat) (hp : pc + 1 = q) {v : Vl} (hv : isL v = false) (hd : decode M.2.1 pc = .ok (.pop, 1)) (k : JG w fz M d n1 n q lv (st) h K) : JG w fz M d n1 n pc lv (v :: st) h K := by
  subst hp
  intro p l e R s m args below meth c H locs ls cells slots Q F hR hr hW hS hl
  exact lv_pop F.1 F.2.1 hd (catl w hv) (k p l e R s m args below meth c H locs ls cells slots Q F hR hr hW hS hl)
theorem J_dup_x1 (q : Nat) (hp : pc + 1 = q) {v u : Vl} (hv : isL v = false) (hu : isL u = false) (hd : decode M.2.1 pc = .ok (.dup_x1, 1)) (k : JG w fz M d n1 n q lv (v :: u :: v :: st) h K) : JG w fz M d n1 n pc lv (v :: u :: st) h K := by
  subst hp
  intro p l e R s m args below meth c H locs ls cells slots Q F hR hr hW hS hl
  exact lv_dup_x1 F.1 F.2.1 hd (catl w hv) (catl w hu) (k p l e R s m args below meth c H locs ls cells slots Q F hR hr hW hS hl)
theorem J_dup2 (q : Nat) (hp : pc + 1 = q) {v u : Vl} (hv : isL v = false) (hu : isL u = false) (hd : decode M.2.1 pc = .ok (.dup2, 1)) (k : JG w fz M d n1 n q lv (v :: u :: v :: u :: st) h K) : JG w fz M d n1 n pc lv (v :: u :: st) h K := by
  subst hp
  intro p l e R s m args below meth c H locs ls cells slots Q F hR hr hW hS hl
  exact lv_dup2_11 F.1 F.2.1 hd (catl w hv) (catl w hu) (k p l e R s m args below meth c H locs ls cells slots Q F hR hr hW hS hl)
theorem J_dup2L (q : Nat) (hp : pc + 1 = q) {z : Int} (hd : decode M.2.1 pc = .ok (.dup2, 1)) (k : JG w fz M d n1 n q lv (vL z :: vL z :: st) h K) : JG w fz M d n1 n pc lv (vL z :: st) h K := by
  subst hp
  intro p l e R s m args below meth c H locs ls cells slots Q F hR hr hW hS hl
  exact lv_dup2_2 (va := .long (Int64.ofInt z)) F.1 F.2.1 hd rfl (k p l e R s m args below meth c H locs ls cells slots Q F hR hr hW hS hl)
theorem J_tab {x dflt lo hi : Int} {offs : Array Int} {len : Nat} (off : Int) (tgt : Nat) (hx : inR x) (hd : decode M.2.1 pc = .ok (.tableswitch dflt lo hi offs, len)) (h1 : lo ≤ x ∧ x ≤ hi) (ho : offs[(x - lo).toNat]? = some off) (ht : (pc : Int) + off = (tgt : Int)) (k : JG w fz M d n1 n tgt lv st h K) : JG w fz M d n1 n pc lv (vI x :: st) h K := by
  intro p l e R s m args below meth c H locs ls cells slots Q F hR hr hW hS hl
  exact lv_tableIn F.1 F.2.1 hd (by rw [i32_to hx]; omega) (by rw [i32_to hx]; omega) (by rw [i32_to hx]; exact ho) ht (k p l e R s m args below meth c H locs ls cells slots Q F hR hr hW hS hl)
theorem J_tabO {x dflt lo hi : Int} {offs : Array Int} {len : Nat} (tgt : Nat) (hx : inR x) (hd : decode M.2.1 pc = .ok (.tableswitch dflt lo hi offs, len)) (h1 : x < lo ∨ hi < x) (ht : (pc : Int) + dflt = (tgt : Int)) (k : JG w fz M d n1 n tgt lv st h K) : JG w fz M d n1 n pc lv (vI x :: st) h K := by
  intro p l e R s m args below meth c H locs ls cells slots Q F hR hr hW hS hl
  exact lv_tableOut F.1 F.2.1 hd (by rw [i32_to hx]; exact h1) ht (k p l e R s m args below meth c H locs ls cells slots Q F hR hr hW hS hl)
theorem J_look {x dflt : Int} {ps : Array (Int × Int)} {len : Nat} (off : Int) (tgt : Nat) (hx : inR x) (hd : decode M.2.1 pc = .ok (.lookupswitch dflt ps, len)) (hp : (ps.toList.zip (ps.toList.drop 1)).all (fun (a, next) => a.1 < next.1) = true) (ho : Op.lookupswitch.offset ps.toList dflt x = off) (ht : (pc : Int) + off = (tgt : Int)) (k : JG w fz M d n1 n tgt lv st h K) : JG w fz M d n1 n pc lv (vI x :: st) h K := by
  intro p l e R s m args below meth c H locs ls cells slots Q F hR hr hW hS hl
  exact lv_lookup F.1 F.2.1 hd hp (by rw [i32_to hx]; exact ho) ht (k p l e R s m args below meth c H locs ls cells slots Q F hR hr hW hS hl)
theorem look_ne {a o dd x : Int} {r : List (Int × Int)} (hne : x ≠ a) : Op.lookupswitch.offset ((a, o) :: r) dd x = Op.lookupswitch.offset r dd x := by
  simp [Op.lookupswitch.offset, hne, Ne.symm hne]
theorem J_ldc (q : Nat) (hp : pc + 2 = q) {z : Int} {index : Nat} (hc : inW (.constant M.1.cls index (Int32.ofInt z))) (hd : decode M.2.1 pc = .ok (.ldc index, 2)) (k : JG w fz M d n1 n q lv (vI z :: st) h K) : JG w fz M d n1 n pc lv st h K := by
  subst hp
  intro p l e R s m args below meth c H locs ls cells slots Q F hR hr hW hS hl
  exact lv_ldc F.1 F.2.1 F.2.2.2.2.2.1 (F.2.2.2.2.2.2.1 _ (hc.mem M)) hd (k p l e R s m args below meth c H locs ls cells slots Q F hR hr hW hS hl)
theorem J_ldcw (q : Nat) (hp : pc + 3 = q) {z : Int} {index : Nat} (hc : inW (.constant M.1.cls index (Int32.ofInt z))) (hd : decode M.2.1 pc = .ok (.ldc_w index, 3)) (k : JG w fz M d n1 n q lv (vI z :: st) h K) : JG w fz M d n1 n pc lv st h K := by
  subst hp
  intro p l e R s m args below meth c H locs ls cells slots Q F hR hr hW hS hl
  exact lv_ldcw F.1 F.2.1 F.2.2.2.2.2.1 (F.2.2.2.2.2.2.1 _ (hc.mem M)) hd (k p l e R s m args below meth c H locs ls cells slots Q F hR hr hW hS hl)
theorem J_ldc2 (q : Nat) (hp : pc + 3 = q) {z : Int} {index : Nat} (hc : inW (.constantLong M.1.cls index (Int64.ofInt z))) (hd : decode M.2.1 pc = .ok (.ldc2_w index, 3)) (k : JG w fz M d n1 n q lv (vL z :: st) h K) : JG w fz M d n1 n pc lv st h K := by
  subst hp
  intro p l e R s m args below meth c H locs ls cells slots Q F hR hr hW hS hl
  exact lv_ldc2 F.1 F.2.1 F.2.2.2.2.2.1 (F.2.2.2.2.2.2.1 _ (hc.mem M)) hd (k p l e R s m args below meth c H locs ls cells slots Q F hR hr hW hS hl)
theorem wad_st (w : Wd) (i : Nat) (hi : i < 1000) : wad w (1000 + i) = .ref (w.2.2.2.1 i) := by
  unfold wad
  rw [if_neg (by omega), if_neg (by omega), if_pos (by omega)]
  have e : ((1000 : Int) + (i : Int)).toNat - 1000 = i := by omega
  rw [e]
theorem J_ldcs (q : Nat) (hp : pc + 2 = q) {index : Nat} {tx : String} (i : Nat) (hi : i < 1000) (hq : (M.1.cls, index, tx, i) ∈ stLk) (hd : decode M.2.1 pc = .ok (.ldc index, 2)) (k : JG w fz M d n1 n q lv (vR (1000 + i) :: st) h K) : JG w fz M d n1 n pc lv st h K := by
  subst hp
  intro p l e R s m args below meth c H locs ls cells slots Q F hR hr hW hS hl
  have k2 := k p l e R s m args below meth c H locs ls cells slots Q F hR hr hW hS hl
  rw [show List.map (tv w) (vR (1000 + i) :: st) = wad w (1000 + i) :: List.map (tv w) st from rfl, wad_st w i hi] at k2
  exact va_ldcS F.1 F.2.1 F.2.2.2.2.2.1 (F.2.2.2.2.2.2.2.1.2.1.2.1 _ hq) hd k2
theorem eobj_at {w : Wd} {fz : Bool} {h : Hp} {o : Int} {ci j : Nat} (hj : j < nfs.getD ci 0) : ((List.range (nfs.getD ci 0)).map (fun j => tv w (fvl fz h ci o j)))[j]? = some (tv w (fvl fz h ci o j)) := by
  simp only [List.getElem?_map, List.getElem?_range hj, Option.map_some]
theorem J_get (q : Nat) (hp : pc + 3 = q) {o : Int} {idx ci j : Nat} {fin : Bool} {ty : FieldType} (hL : FL M.1.cls idx ci j fin ty) (ho : Ob ci o) (hn : o.toNat < n) (hd : decode M.2.1 pc = .ok (.getfield idx, 3)) (k : JG w fz M d n1 n q lv (fvl fz h ci o j :: st) h K) : JG w fz M d n1 n pc lv (vR o :: st) h K := by
  subst hp
  intro p l e R s m args below meth c H locs ls cells slots Q F hR hr hW hS hl
  obtain ⟨C, T, N, ty0, ⟨hc, hnf, hin, hty, hnm⟩, hj, hlk, hdc, hfin, htj⟩ := hL
  have he := wl_at (w := w) (fz := fz) (h := h) hn
  rw [en_obj ho] at he
  have e2 : tv w (vR o) = .ref (w.1 + o.toNat) := wad_o w ho.1 (by have := Ob.lt ho; have := NT_lt; omega)
  have k2 := k p l e R s m args below meth c H locs ls cells slots Q F hR hr hW hS hl
  rw [List.map_cons] at k2 ⊢
  rw [e2]
  exact va_get (D := w.2.1) (cl := vwCl) (tys := tysW w) F.1 F.2.1 (ref := C) (Ts := wsOf M) F.2.2.2.2.2.2.1 (fun c hc => (hin c hc).mem M) F.2.2.2.2.2.1 F.2.2.2.2.2.2.2.1.1 hW.2 o.toNat he hc j hj (F.2.2.2.2.2.2.1 _ (hlk.mem M)) (fun x hx => by rw [hdc] at hx; exact hx) (eobj_at (by rw [hnf]; exact hj)) hd k2
theorem J_getI (q : Nat) (hp : pc + 3 = q) {o z : Int} {idx ci j : Nat} {fin : Bool} {ty : FieldType} (hL : FL M.1.cls idx ci j fin ty) (hk : fk ci j = 0) (ho : Ob ci o) (hn : o.toNat < n) (hd : decode M.2.1 pc = .ok (.getfield idx, 3)) (hz : h o j = z) (k : JG w fz M d n1 n q lv (vI z :: st) h K) : JG w fz M d n1 n pc lv (vR o :: st) h K :=
  J_get q hp hL ho hn hd (by unfold fvl; rw [if_pos hk]; rw [hz]; exact k)
theorem J_getL (q : Nat) (hp : pc + 3 = q) {o z : Int} {idx ci j : Nat} {fin : Bool} {ty : FieldType} (hL : FL M.1.cls idx ci j fin ty) (hk : fk ci j = 1) (ho : Ob ci o) (hn : o.toNat < n) (hd : decode M.2.1 pc = .ok (.getfield idx, 3)) (hz : h o j = z) (k : JG w fz M d n1 n q lv (vL z :: st) h K) : JG w fz M d n1 n pc lv (vR o :: st) h K :=
  J_get q hp hL ho hn hd (by unfold fvl; rw [if_neg (by rw [hk]; decide), if_pos hk]; rw [hz]; exact k)
theorem J_getR (q : Nat) (hp : pc + 3 = q) {o z : Int} {idx ci j : Nat} {fin : Bool} {ty : FieldType} (hL : FL M.1.cls idx ci j fin ty) (hk : fk ci j = 2) (ho : Ob ci o) (hn : o.toNat < n) (hd : decode M.2.1 pc = .ok (.getfield idx, 3)) (hz : h o j = z) (k : JG w fz M d n1 n q lv (vR z :: st) h K) : JG w fz M d n1 n pc lv (vR o :: st) h K :=
  J_get q hp hL ho hn hd (by unfold fvl; rw [if_neg (by rw [hk]; decide), if_neg (by rw [hk]; decide), if_pos hk]; rw [hz]; exact k)
theorem J_getF (q : Nat) (hp : pc + 3 = q) {o ov dd : Int} {idx ci j : Nat} {fin : Bool} {ty : FieldType} (hL : FL M.1.cls idx ci j fin ty) (hk : fk ci j = dd) (hdd : 3 ≤ dd) (hq : o + (dd - 1000) = ov) (ho : Ob ci o) (hn : o.toNat < n) (hd : decode M.2.1 pc = .ok (.getfield idx, 3)) (k : JG w true M d n1 n q lv (vR ov :: st) h K) : JG w true M d n1 n pc lv (vR o :: st) h K :=
  J_get q hp hL ho hn hd (by unfold fvl; rw [if_neg (by rw [hk]; omega), if_neg (by rw [hk]; omega), if_neg (by rw [hk]; omega), if_pos rfl, hk, hq]; exact k)
theorem J_getFc (q : Nat) (hp : pc + 3 = q) {o dd z : Int} {idx ci j : Nat} {fin : Bool} {ty : FieldType} (hL : FL M.1.cls idx ci j fin ty) (hk : fk ci j = dd) (hdd : 3 ≤ dd) (ho : Ob ci o) (hn : o.toNat < n) (hd : decode M.2.1 pc = .ok (.getfield idx, 3)) (hz : h o j = z) (k : JG w false M d n1 n q lv (vR z :: st) h K) : JG w false M d n1 n pc lv (vR o :: st) h K :=
  J_get q hp hL ho hn hd (by unfold fvl; rw [if_neg (by rw [hk]; omega), if_neg (by rw [hk]; omega), if_neg (by rw [hk]; omega), if_neg (by decide)]; rw [hz]; exact k)
theorem fvl_ne {fz : Bool} {h : Hp} {o z : Int} {ci j q : Nat} (hq : q ≠ j) : fvl fz (hu h o j z) ci o q = fvl fz h ci o q := by
  have e : hu h o j z o q = h o q := by
    unfold hu
    rw [if_neg (fun g => hq (by omega))]
  unfold fvl
  rw [e]
theorem eobj_set {w : Wd} {fz : Bool} {h : Hp} {o z : Int} {ci j : Nat} (hj : j < nfs.getD ci 0) : ((List.range (nfs.getD ci 0)).map (fun j => tv w (fvl fz h ci o j))).set j (tv w (fvl fz (hu h o j z) ci o j)) = (List.range (nfs.getD ci 0)).map (fun q => tv w (fvl fz (hu h o j z) ci o q)) := by
  apply List.ext_getElem?
  intro q
  rw [List.getElem?_set]
  simp only [List.length_map, List.length_range]
  by_cases hq : j = q
  · subst hq
    rw [if_pos rfl, if_pos hj, eobj_at hj]
  · rw [if_neg hq]
    by_cases h2 : q < nfs.getD ci 0
    · rw [eobj_at h2, eobj_at h2, fvl_ne (fun g => hq g.symm)]
    · rw [List.getElem?_eq_none (by simpa using h2), List.getElem?_eq_none (by simpa using h2)]
/-- the cell of an object that was written -/
theorem put_W {w : Wd} {fz : Bool} {h : Hp} {n : Nat} {H H1 : Heap} {o z : Int} {ci j : Nat} {cl0 : vw_C} {cell1 : Cell} (hW : Wh w fz n h H) (ho : Ob ci o) (hn : o.toNat < n) (hc : vwCl[ci]? = some cl0) (hnf : nfs.getD ci 0 = cl0.2.2) (hj : j < cl0.2.2)
    (e1 : H1[w.1 + o.toNat]? = some cell1) (e2 : H1.size = H.size) (e3 : ∀ q, q ≠ w.1 + o.toNat → H1[q]? = H[q]?) (q2 : cell1.cls = w.2.1.1 ci) (q3 : cell1.vm = .none) (q4 : ∀ k, k < cl0.2.2 → cell1.slots[w.2.1.2 ci k]? = some (updV (vp_V ((List.range (nfs.getD ci 0)).map (fun j => tv w (fvl fz h ci o j)))) j (tv w (fvl fz (hu h o j z) ci o j)) k)) : Wh w fz n (hu h o j z) H1 := by
  have he := wl_at (w := w) (fz := fz) (h := h) hn
  rw [en_obj ho] at he
  have hl : j < ((List.range (nfs.getD ci 0)).map (fun j => tv w (fvl fz h ci o j))).length := by simp only [List.length_map, List.length_range]; rw [hnf]; exact hj
  refine ⟨hW.1.imp id (fun q => by rw [e2]; exact q), ?_⟩
  have hs := hW.2.set (wl_D w fz n h) he (e := .inr (ci, ((List.range (nfs.getD ci 0)).map (fun j => tv w (fvl fz h ci o j))).set j (tv w (fvl fz (hu h o j z) ci o j)))) ⟨cl0, hc, t_OB.to (V := updV (vp_V ((List.range (nfs.getD ci 0)).map (fun j => tv w (fvl fz h ci o j)))) j (tv w (fvl fz (hu h o j z) ci o j))) ⟨cell1, e1, q2, q3, q4⟩ (fun k _ => vp_updV_set hl _ k)⟩ e3
  rw [eobj_set (by rw [hnf]; exact hj)] at hs
  rwa [wl_set (i := j) (v := z) ho.1 hn (by rw [en_obj ho]; rfl)] at hs
theorem J_put (q : Nat) (hp : pc + 3 = q) {o z : Int} {v : Vl} {idx ci j : Nat} {ty : FieldType} (hL : FL M.1.cls idx ci j false ty) (hv : fvl fz (hu h o j z) ci o j = v) (hnr : narrow ty (tv w v) = tv w v) (hft : fits ty (tv w v) = true) (ho : Ob ci o) (hn : o.toNat < n) (hd : decode M.2.1 pc = .ok (.putfield idx, 3)) (k : JG w fz M d n1 n q lv st (hu h o j z) K) : JG w fz M d n1 n pc lv (v :: vR o :: st) h K := by
  subst hp
  intro p l e R s m args below meth c H locs ls cells slots Q F hR hr hW hS hl
  obtain ⟨C, T, N, ty0, ⟨hc, hnf, hin, hty, hnm⟩, hj, hlk, hdc, hfin, htj⟩ := hL
  have hts := F.2.2.2.2.2.2.1
  have hin' : ∀ c ∈ u_ws C T N, c ∈ wsOf M := fun c hc => (hin c hc).mem M
  have hK := F.2.2.2.2.2.2.2.1.1
  have he := wl_at (w := w) (fz := fz) (h := h) hn
  rw [en_obj ho] at he
  have ea : tv w (vR o) = .ref (w.1 + o.toNat) := wad_o w ho.1 (by have := Ob.lt ho; have := NT_lt; omega)
  have hap := va_apart (own := M.1.cls) hts hin' ty0 hty hnm hK hc
  obtain ⟨r, g1, cell, q1, q2, q3, q4⟩ := hW.2 o.toNat _ he
  obtain rfl : r = (C, T, N) := Option.some.inj (g1.symm.trans hc)
  obtain ⟨hSl, hfc, kC, hkC, hkind⟩ := hK.1 ci _ hc
  obtain ⟨cf, kf, fi, f, hi, hsl⟩ := hSl j hj
  have hlay := hts _ (hin' _ (u_in_lay hj))
  unfold u_lay at hlay
  rw [if_neg (by rw [hfin]; decide)] at hlay
  have hst := (u_facts hfc hkC (u_lays hts hin' hj) hi).1
  have h6 := u_store hfc hkC hkind hlay hi (by rw [hty j hj, htj]) hnr hft
  rw [List.map_cons, List.map_cons, ea]
  refine W.putK F.1 F.2.1 (f := f) ⟨F.2.2.2.2.2.1, hts _ (hlk.mem M), ⟨_, _, _, by rw [hdc] at hi; exact hi⟩, hst⟩ (by rw [q2]; exact h6) q1 q3 (by rw [hsl]; exact k2_hasslot (q4 j hj)) rfl rfl hd fun H1 e1 e2 e3 => ?_
  rw [hsl] at e1 ⊢
  refine k p l e R s m args below meth c H1 _ ls cells slots Q F hR hr (put_W hW ho hn hc hnf hj e1 e2 e3 q2 q3 ?_) (hS.put e2 e3 (Nat.le_add_right _ _)) hl
  rw [hv]
  exact t_set q4 hap hj _
theorem J_putF (q : Nat) (hp : pc + 3 = q) {o z : Int} {v : Vl} {idx ci j : Nat} {ty : FieldType} (hL : FL M.1.cls idx ci j true ty) (hcl : (∃ (C : String) (T : u_T) (N : Nat), vwCl[ci]? = some (C, T, N) ∧ C = M.1.cls) ∧ M.1.name = "<init>") (hv : fvl fz (hu h o j z) ci o j = v) (hnr : narrow ty (tv w v) = tv w v) (hft : fits ty (tv w v) = true) (ho : Ob ci o) (hn : o.toNat < n) (hd : decode M.2.1 pc = .ok (.putfield idx, 3)) (k : JG w fz M d n1 n q lv st (hu h o j z) K) : JG w fz M d n1 n pc lv (v :: vR o :: st) h K := by
  subst hp
  intro p l e R s m args below meth c H locs ls cells slots Q F hR hr hW hS hl
  obtain ⟨C, T, N, ty0, ⟨hc, hnf, hin, hty, hnm⟩, hj, hlk, hdc, hfin, htj⟩ := hL
  have hts := F.2.2.2.2.2.2.1
  have hin' : ∀ c ∈ u_ws C T N, c ∈ wsOf M := fun c hc => (hin c hc).mem M
  have hK := F.2.2.2.2.2.2.2.1.1
  have he := wl_at (w := w) (fz := fz) (h := h) hn
  rw [en_obj ho] at he
  have ea : tv w (vR o) = .ref (w.1 + o.toNat) := wad_o w ho.1 (by have := Ob.lt ho; have := NT_lt; omega)
  have hap := va_apart (own := M.1.cls) hts hin' ty0 hty hnm hK hc
  obtain ⟨r, g1, cell, q1, q2, q3, q4⟩ := hW.2 o.toNat _ he
  obtain rfl : r = (C, T, N) := Option.some.inj (g1.symm.trans hc)
  obtain ⟨hSl, hfc, kC, hkC, hkind⟩ := hK.1 ci _ hc
  obtain ⟨cf, kf, fi, f, hi, hsl⟩ := hSl j hj
  have hlay := hts _ (hin' _ (u_in_lay hj))
  unfold u_lay at hlay
  rw [if_pos hfin] at hlay
  have hst := (u_facts hfc hkC (u_lays hts hin' hj) hi).1
  have hown := F.2.2.2.2.2.1
  obtain ⟨⟨C2, T2, N2, hc2, hC2⟩, hinit⟩ := hcl
  have e5 : (C2, T2, N2) = (C, T, N) := Option.some.inj (hc2.symm.trans hc)
  cases e5
  have hcf : m.cls = cf := by
    obtain ⟨_, _, c', _, _, _, -, -, hf', -, -, -, hown2, -⟩ := Cond.laysFinal_spec hlay
    have e1 : c' = cf := by have := hi.symm.trans hf'; simp at this; exact this.1.symm
    rw [← e1]
    rw [hdc, hC2] at hown2
    exact Option.some.inj (hown.symm.trans hown2)
  have h6 := u_fits hfc hkC hkind (Or.inr hlay) hi (by rw [hty j hj, htj]) hnr hft
  rw [List.map_cons, List.map_cons, ea]
  refine W.putFinK F.1 F.2.1 hown (hts _ (hlk.mem M)) (by rw [hdc] at hi; exact hi) hst hcf (by rw [F.2.2.2.2.2.2.2.2.1]; exact hinit) (by rw [q2]; exact h6) q1 q3 (by rw [hsl]; exact k2_hasslot (q4 j hj)) rfl rfl hd fun H1 e1 e2 e3 => ?_
  rw [hsl] at e1 ⊢
  refine k p l e R s m args below meth c H1 _ ls cells slots Q F hR hr (put_W hW ho hn hc hnf hj e1 e2 e3 q2 q3 ?_) (hS.put e2 e3 (Nat.le_add_right _ _)) hl
  rw [hv]
  exact t_set q4 hap hj _
end ROWS2
