/-! ===== the text: its tokens ===== -/
def TXT (tx : Nat → Nat) (l : Nat) (f : Nat → Int32) : Prop := l ≤ 120 ∧ ∀ i, i < l → tx i ≤ 255 ∧ f i = nI (tx i)
def skp (tx : Nat → Nat) : Nat → Nat → Nat
  | 0, i => i
  | d + 1, i => if tx i = 32 then skp tx d (i + 1) else i
def nve (tx : Nat → Nat) : Nat → Nat → Nat → Nat × Nat
  | 0, i, v => (i, v)
  | d + 1, i, v => if 48 ≤ tx i ∧ tx i ≤ 57 then nve tx d (i + 1) (if 9999 < v then v else 10 * v + tx i - 48) else (i, v)
/-- place, the next place, kind (0 the end, 1 a number, 2 a letter, 3 none), value -/
def tks (tx : Nat → Nat) (l p : Nat) : Nat × Nat × Nat × Nat :=
  if l ≤ p then (p, p, 0, 0)
  else if 48 ≤ tx p ∧ tx p ≤ 57 then
    (if 9999 < (nve tx (l - p) p 0).2 ∨ (tx p = 48 ∧ 1 < (nve tx (l - p) p 0).1 - p) then (p, (nve tx (l - p) p 0).1, 3, 0) else (p, (nve tx (l - p) p 0).1, 1, (nve tx (l - p) p 0).2))
  else (p, p + 1, 2, tx p)
def tkn (tx : Nat → Nat) (l i : Nat) : Nat × Nat × Nat × Nat := tks tx l (skp tx (l - i) i)
def cTk (k v : Nat) : Int32 := if k = 0 then -1 else if k = 1 then -2 else if k = 2 then nI v else -3
def mTk (k v : Nat) : Int32 := if k = 0 then -1 else if k = 1 then 0 else if k = 2 then (if (97 ≤ v ∧ v ≤ 122) ∨ v = 59 then nI v else -2) else -2
theorem skp_b (tx : Nat → Nat) : ∀ d i, i ≤ skp tx d i ∧ skp tx d i ≤ i + d
  | 0, i => ⟨Nat.le_refl _, Nat.le_refl _⟩
  | d + 1, i => by
    have := skp_b tx d (i + 1)
    unfold skp
    split <;> omega
theorem skp_y {tx : Nat → Nat} {d i : Nat} (h : tx i = 32) : skp tx (d + 1) i = skp tx d (i + 1) := if_pos h
theorem skp_n {tx : Nat → Nat} {d i : Nat} (h : ¬ tx i = 32) : skp tx (d + 1) i = i := if_neg h
theorem skp_at (tx : Nat → Nat) : ∀ d i, skp tx (d + i - skp tx d i) (skp tx d i) = skp tx d i
  | 0, i => by show skp tx (0 + i - i) i = i; rw [show 0 + i - i = 0 by omega]; rfl
  | d + 1, i => by
    by_cases c : tx i = 32
    · rw [skp_y c, show d + 1 + i - skp tx d (i + 1) = d + (i + 1) - skp tx d (i + 1) by omega]; exact skp_at tx d (i + 1)
    · rw [skp_n c, show d + 1 + i - i = d + 1 by omega, skp_n c]
theorem skp_2 (tx : Nat → Nat) {l i : Nat} (hi : i ≤ l) : skp tx (l - skp tx (l - i) i) (skp tx (l - i) i) = skp tx (l - i) i := by
  have := skp_at tx (l - i) i
  rw [show l - i + i = l by omega] at this
  exact this
theorem nve_y {tx : Nat → Nat} {d i v : Nat} (h : 48 ≤ tx i ∧ tx i ≤ 57) : nve tx (d + 1) i v = nve tx d (i + 1) (if 9999 < v then v else 10 * v + tx i - 48) := if_pos h
theorem nve_n {tx : Nat → Nat} {d i v : Nat} (h : ¬ (48 ≤ tx i ∧ tx i ≤ 57)) : nve tx (d + 1) i v = (i, v) := if_neg h
theorem nve_b (tx : Nat → Nat) : ∀ d i v, i ≤ (nve tx d i v).1 ∧ (nve tx d i v).1 ≤ i + d ∧ (v ≤ 99999 → (nve tx d i v).2 ≤ 99999)
  | 0, i, v => ⟨Nat.le_refl _, Nat.le_refl _, fun h => h⟩
  | d + 1, i, v => by
    by_cases c : 48 ≤ tx i ∧ tx i ≤ 57
    · rw [nve_y c]
      obtain ⟨a, b, e⟩ := nve_b tx d (i + 1) (if 9999 < v then v else 10 * v + tx i - 48)
      refine ⟨by omega, by omega, fun h => e ?_⟩
      split <;> omega
    · rw [nve_n c]
      exact ⟨Nat.le_refl _, by omega, fun h => h⟩
theorem tks_e {tx : Nat → Nat} {l p : Nat} (h : l ≤ p) : tks tx l p = (p, p, 0, 0) := if_pos h
theorem tks_l {tx : Nat → Nat} {l p : Nat} (h : p < l) (h2 : ¬ (48 ≤ tx p ∧ tx p ≤ 57)) : tks tx l p = (p, p + 1, 2, tx p) := by
  unfold tks; rw [if_neg (by omega), if_neg h2]
theorem tks_b {tx : Nat → Nat} {l p : Nat} (h : p < l) (h2 : 48 ≤ tx p ∧ tx p ≤ 57) (h3 : 9999 < (nve tx (l - p) p 0).2 ∨ (tx p = 48 ∧ 1 < (nve tx (l - p) p 0).1 - p)) : tks tx l p = (p, (nve tx (l - p) p 0).1, 3, 0) := by
  unfold tks; rw [if_neg (by omega), if_pos h2, if_pos h3]
theorem tks_n {tx : Nat → Nat} {l p : Nat} (h : p < l) (h2 : 48 ≤ tx p ∧ tx p ≤ 57) (h3 : ¬ (9999 < (nve tx (l - p) p 0).2 ∨ (tx p = 48 ∧ 1 < (nve tx (l - p) p 0).1 - p))) : tks tx l p = (p, (nve tx (l - p) p 0).1, 1, (nve tx (l - p) p 0).2) := by
  unfold tks; rw [if_neg (by omega), if_pos h2, if_neg h3]
theorem tks_1 (tx : Nat → Nat) (l p : Nat) : (tks tx l p).1 = p := by
  unfold tks
  split
  · rfl
  · split
    · split <;> rfl
    · rfl
theorem tks_k (tx : Nat → Nat) {l p : Nat} (hp : p ≤ l) : (tks tx l p).2.1 ≤ l ∧ (tks tx l p).2.2.1 < 4 ∧ ((tks tx l p).2.2.1 = 0 ↔ l ≤ p) ∧ ((tks tx l p).2.2.1 ≠ 0 → p < (tks tx l p).2.1) ∧ ((tks tx l p).2.2.1 = 1 → (tks tx l p).2.2.2 ≤ 9999) := by
  by_cases c : l ≤ p
  · rw [tks_e c]
    exact ⟨by show p ≤ l; exact hp, (by decide : (0 : Nat) < 4), ⟨fun _ => c, fun _ => rfl⟩, fun q => absurd rfl q, fun q => by cases q⟩
  · by_cases d : 48 ≤ tx p ∧ tx p ≤ 57
    · have hb := nve_b tx (l - p) p 0
      have hb2 := nve_b tx (l - p - 1) (p + 1) (if 9999 < 0 then 0 else 10 * 0 + tx p - 48)
      have hs : nve tx (l - p) p 0 = nve tx (l - p - 1) (p + 1) (if 9999 < 0 then 0 else 10 * 0 + tx p - 48) := by
        rw [show l - p = l - p - 1 + 1 by omega, nve_y d]; rfl
      rw [← hs] at hb2
      by_cases e : 9999 < (nve tx (l - p) p 0).2 ∨ (tx p = 48 ∧ 1 < (nve tx (l - p) p 0).1 - p)
      · rw [tks_b (by omega) d e]
        exact ⟨by show (nve tx (l - p) p 0).1 ≤ l; omega, (by decide : (3 : Nat) < 4), ⟨fun q => (by cases q), fun q => absurd q c⟩, fun _ => by show p < (nve tx (l - p) p 0).1; omega, fun q => by cases q⟩
      · rw [tks_n (by omega) d e]
        exact ⟨by show (nve tx (l - p) p 0).1 ≤ l; omega, (by decide : (1 : Nat) < 4), ⟨fun q => (by cases q), fun q => absurd q c⟩, fun _ => by show p < (nve tx (l - p) p 0).1; omega, fun _ => by show (nve tx (l - p) p 0).2 ≤ 9999; omega⟩
    · rw [tks_l (by omega) d]
      exact ⟨by show p + 1 ≤ l; omega, (by decide : (2 : Nat) < 4), ⟨fun q => (by cases q), fun q => absurd q c⟩, fun _ => by show p < p + 1; omega, fun q => by cases q⟩
/-- what holds of a token -/
theorem tkn_ok (tx : Nat → Nat) {l i : Nat} (hi : i ≤ l) : (tkn tx l i).1 ≤ l ∧ (tkn tx l i).2.1 ≤ l ∧ (tkn tx l i).2.2.1 < 4 ∧ ((tkn tx l i).2.2.1 ≠ 0 → i < (tkn tx l i).2.1) ∧ ((tkn tx l i).2.2.1 = 1 → (tkn tx l i).2.2.2 ≤ 9999) := by
  unfold tkn
  have hs := skp_b tx (l - i) i
  obtain ⟨a, b, c, d, e⟩ := tks_k tx (l := l) (p := skp tx (l - i) i) (by omega)
  rw [tks_1]
  exact ⟨by omega, a, b, fun q => by have := d q; omega, e⟩
theorem tkn_0 (tx : Nat → Nat) {l i : Nat} (hi : i ≤ l) : (tkn tx l i).2.2.1 = 0 ↔ l ≤ skp tx (l - i) i := by
  unfold tkn
  have hs := skp_b tx (l - i) i
  exact (tks_k tx (l := l) (p := skp tx (l - i) i) (by omega)).2.2.1
theorem tkn_skp (tx : Nat → Nat) {l i : Nat} (hi : i ≤ l) : tkn tx l (skp tx (l - i) i) = tkn tx l i := by
  unfold tkn
  rw [skp_2 tx hi]
theorem tks_255 {tx : Nat → Nat} {l : Nat} {f : Nat → Int32} (hT : TXT tx l f) {p : Nat} (h : (tks tx l p).2.2.1 = 2) : (tks tx l p).2.2.2 ≤ 255 := by
  by_cases c : l ≤ p
  · rw [tks_e c] at h; cases h
  · by_cases d : 48 ≤ tx p ∧ tx p ≤ 57
    · by_cases e : 9999 < (nve tx (l - p) p 0).2 ∨ (tx p = 48 ∧ 1 < (nve tx (l - p) p 0).1 - p)
      · rw [tks_b (by omega) d e] at h; cases h
      · rw [tks_n (by omega) d e] at h; cases h
    · rw [tks_l (by omega) d]
      exact (hT.2 p (by omega)).1
section
variable {tx : Nat → Nat} {l : Nat} {f : Nat → Int32}
theorem x_isDigit {c : Nat} (hc : c ≤ 255) {Q : Int32 → Prop} (h1 : 48 ≤ c ∧ c ≤ 57 → Q 1) (h0 : ¬ (48 ≤ c ∧ c ≤ 57) → Q 0) : wp_X7_isDigit (nI c) Q := by
  unfold wp_X7_isDigit wp_X7_isDigit_b16 wp_X7_isDigit_b17
  refine bLT c 48 rfl rfl (by omega) (by decide) (fun q => ⟨Or.inl rfl, h0 (by omega)⟩) (fun q => ?_)
  exact bLT 57 c rfl rfl (by decide) (by omega) (fun q => ⟨Or.inl rfl, h0 (by omega)⟩) (fun q => ⟨Or.inr rfl, h1 (by omega)⟩)
theorem x_takeNumber (hT : TXT tx l f) {p : Nat} (hp : p < l) (hd : 48 ≤ tx p ∧ tx p ≤ 57) {tk nu : Int32} {Q : Int32 → Int32 → Int32 → Prop}
    (hQ : ∀ num, ((tks tx l p).2.2.1 = 1 → num = nI (tks tx l p).2.2.2) → Q (nI (tks tx l p).2.1) (cTk (tks tx l p).2.2.1 (tks tx l p).2.2.2) num) : wp_X7_takeNumber f (nI l) (nI p) (nI p) tk nu Q := by
  have hl := hT.1
  have hend : ∀ tk, wp_X7_takeNumber_b74 f (nI l) (nI p) Q (nI (nve tx (l - p) p 0).1) tk (nI (min (nve tx (l - p) p 0).2 10000)) := by
    intro tk
    have hb := nve_b tx (l - p) p 0
    unfold wp_X7_takeNumber_b74 wp_X7_takeNumber_b105 wp_X7_takeNumber_b106 wp_X7_takeNumber_b122 wp_X7_takeNumber_b129
    rw [nI_cl (by omega), (hT.2 p hp).2, nI_subN hb.1]
    have hv : ∀ A B : Prop, ((nve tx (l - p) p 0).2 ≤ 9999 → A) → (9999 < (nve tx (l - p) p 0).2 → B) → (nI (min (nve tx (l - p) p 0).2 10000) ≤ (9999 : Int32) → A) ∧ (¬ nI (min (nve tx (l - p) p 0).2 10000) ≤ (9999 : Int32) → B) := fun A B h1 h2 => bLE _ 9999 rfl rfl (by omega) (by decide) (fun q => h1 (by omega)) (fun q => h2 (by omega))
    have hgood : ¬ (9999 < (nve tx (l - p) p 0).2 ∨ (tx p = 48 ∧ 1 < (nve tx (l - p) p 0).1 - p)) → Q (nI (nve tx (l - p) p 0).1) (-2) (nI (min (nve tx (l - p) p 0).2 10000)) := by
      intro c
      have := hQ (nI (min (nve tx (l - p) p 0).2 10000))
      rw [tks_n hp hd c] at this
      exact this (fun _ => by show _ = nI (nve tx (l - p) p 0).2; rw [show min (nve tx (l - p) p 0).2 10000 = (nve tx (l - p) p 0).2 by omega])
    have hbad : (9999 < (nve tx (l - p) p 0).2 ∨ (tx p = 48 ∧ 1 < (nve tx (l - p) p 0).1 - p)) → Q (nI (nve tx (l - p) p 0).1) (-3) (nI (min (nve tx (l - p) p 0).2 10000)) := by
      intro c
      have := hQ (nI (min (nve tx (l - p) p 0).2 10000))
      rw [tks_b hp hd c] at this
      exact this (fun q => by cases q)
    refine ⟨vin (by omega) (by decide), ?_⟩
    refine bNE (tx p) 48 rfl rfl (by omega) (by decide) (fun c => ?_) (fun c => ?_)
    · refine ⟨fun q => absurd rfl q, fun _ => hv _ _ (fun q => hgood ?_) (fun q => hbad (Or.inl q))⟩
      rintro (a | a)
      · omega
      · exact c a.1
    · refine bLE _ 1 rfl rfl (by omega) (by decide) (fun e => ?_) (fun e => ?_)
      · refine ⟨fun q => absurd rfl q, fun _ => hv _ _ (fun q => hgood ?_) (fun q => hbad (Or.inl q))⟩
        rintro (a | a)
        · omega
        · omega
      · exact ⟨fun _ => hbad (Or.inr ⟨c, e⟩), fun q => absurd q (by decide)⟩
  have hloop : ∀ (d i v : Nat) (tk : Int32), i + d = l → v ≤ 99999 → nve tx (l - p) p 0 = nve tx d i v → wp_X7_takeNumber_h5 f (nI l) (nI p) Q (d + 1) (nI i) tk (nI (min v 10000)) := by
    intro d
    induction d with
    | zero =>
      intro i v tk hi hv he
      rw [wp_X7_takeNumber_h5]
      refine bLE l i rfl rfl (by omega) (by omega) (fun _ => ?_) (fun q => by omega)
      have := hend tk
      rw [he] at this
      exact this
    | succ d ih =>
      intro i v tk hi hv he
      rw [wp_X7_takeNumber_h5]
      obtain ⟨h255, hfi⟩ := hT.2 i (by omega)
      refine bLE l i rfl rfl (by omega) (by omega) (fun q => by omega) (fun _ => ?_)
      rw [nI_cl (by omega), hfi]
      refine ⟨vin (by omega) (by decide), x_isDigit h255 (fun c => ⟨fun q => absurd q (by decide), fun _ => ⟨vin (by omega) (by decide), ?_⟩⟩) (fun c => ⟨fun _ => ?_, fun q => absurd rfl q⟩)⟩
      · intro x hx y hy
        rw [nI_mulL, nI_add, nI_subL (by omega)] at hx
        have hx' : x = nI (min (if 9999 < v then v else 10 * v + tx i - 48) 10000) := by
          rw [hx]
          by_cases q : 10000 < min v 10000 * 10 + tx i - 48
          · rw [if_pos (show (10000 : Int32) < nI (min v 10000 * 10 + tx i - 48) from nI_lt (a := 10000) q (by omega))]
            have : min (if 9999 < v then v else 10 * v + tx i - 48) 10000 = 10000 := by split <;> omega
            rw [this]; rfl
          · rw [if_neg (show ¬ (10000 : Int32) < nI (min v 10000 * 10 + tx i - 48) from nI_nlt (a := 10000) (by omega) (by decide))]
            have : min (if 9999 < v then v else 10 * v + tx i - 48) 10000 = min v 10000 * 10 + tx i - 48 := by split <;> omega
            rw [this]
        have hy' : y = nI (i + 1) := by rw [hy]; exact nI_1 i
        rw [hx', hy']
        refine ih (i + 1) _ tk (by omega) (by split <;> omega) ?_
        rw [he, nve_y c]
      · have := hend tk
        rw [he, nve_n c] at this
        exact this
  exact ⟨l - p + 1, hloop (l - p) p 0 tk (by omega) (by decide) rfl⟩
theorem x_nextToken (hT : TXT tx l f) {i : Nat} (hi : i ≤ l) {pl tk nu : Int32} {Q : Int32 → Int32 → Int32 → Int32 → Prop}
    (hQ : ∀ num, ((tkn tx l i).2.2.1 = 1 → num = nI (tkn tx l i).2.2.2) → Q (nI (tkn tx l i).2.1) (nI (tkn tx l i).1) (cTk (tkn tx l i).2.2.1 (tkn tx l i).2.2.2) num) : wp_X7_nextToken f (nI l) (nI i) pl tk nu Q := by
  have hl := hT.1
  unfold tkn at hQ
  have hend : ∀ p, p ≤ l → skp tx (l - i) i = p → wp_X7_nextToken_b38 f (nI l) Q (nI p) pl tk nu := by
    intro p hp hps
    rw [hps] at hQ
    rw [tks_1] at hQ
    unfold wp_X7_nextToken_b38 wp_X7_nextToken_b110
    refine bLT p l rfl rfl (by omega) (by omega) (fun q => ?_) (fun q => ?_)
    · obtain ⟨h255, hfi⟩ := hT.2 p q
      rw [nI_cl (by omega), hfi]
      refine ⟨vin (by omega) (by decide), x_isDigit h255 (fun c => ⟨fun q => absurd q (by decide), fun _ => ?_⟩) (fun c => ⟨fun _ => ⟨vin (by omega) (by decide), ?_⟩, fun q => absurd rfl q⟩)⟩
      · exact x_takeNumber hT q c hQ
      · intro x hx y hy
        have hy' : y = nI (p + 1) := by rw [hy]; exact nI_1 p
        rw [hx, hy']
        have := hQ nu
        rw [tks_l q c] at this
        exact this (fun q => by cases q)
    · have := hQ nu
      rw [tks_e q] at this
      exact this (fun q => by cases q)
  have hloop : ∀ (d j : Nat), j + d = l → skp tx (l - i) i = skp tx d j → wp_X7_nextToken_h0 f (nI l) Q (d + 1) (nI j) pl tk nu := by
    intro d
    induction d with
    | zero =>
      intro j hj he
      rw [wp_X7_nextToken_h0]
      refine bLE l j rfl rfl (by omega) (by omega) (fun _ => ?_) (fun q => by omega)
      exact hend j (by omega) he
    | succ d ih =>
      intro j hj he
      rw [wp_X7_nextToken_h0]
      obtain ⟨h255, hfi⟩ := hT.2 j (by omega)
      refine bLE l j rfl rfl (by omega) (by omega) (fun q => by omega) (fun _ => ?_)
      rw [nI_cl (by omega), hfi]
      refine ⟨vin (by omega) (by decide), ?_⟩
      refine bNE (tx j) 32 rfl rfl (by omega) (by decide) (fun c => ?_) (fun c => ?_)
      · exact hend j (by omega) (by rw [he, skp_n c])
      · intro y hy
        have hy' : y = nI (j + 1) := by rw [hy]; exact nI_1 j
        rw [hy']
        exact ih (j + 1) (by omega) (by rw [he, skp_y c])
  exact ⟨l - i + 1, hloop (l - i) i (by omega) rfl⟩
theorem m_isFigure (hT : TXT tx l f) {i : Nat} (hi : i ≤ l) {Q : Int32 → Prop} (h1 : i < l → 48 ≤ tx i ∧ tx i ≤ 57 → Q 1) (h0 : ¬ (i < l ∧ 48 ≤ tx i ∧ tx i ≤ 57) → Q 0) : wp_X9_isFigure (nI l) f (nI i) Q := by
  have hl := hT.1
  unfold wp_X9_isFigure wp_X9_isFigure_b34 wp_X9_isFigure_b35
  refine bLE l i rfl rfl (by omega) (by omega) (fun q => ⟨Or.inl rfl, h0 (by omega)⟩) (fun q => ?_)
  obtain ⟨h255, hfi⟩ := hT.2 i q
  rw [nI_cl (by omega), hfi]
  refine ⟨vin (by omega) (by decide), ?_⟩
  refine m_in (fun a b => ⟨fun q => absurd q (by decide), fun _ => ⟨Or.inr rfl, h1 q ?_⟩⟩) (fun a => ⟨fun _ => ⟨Or.inl rfl, h0 ?_⟩, fun q => absurd rfl q⟩)
  · refine ⟨?_, ?_⟩
    · rcases Nat.lt_or_ge (tx i) 48 with c | c
      · exact absurd (nI_lt (b := 48) c (by decide)) a
      · exact c
    · rcases Nat.lt_or_ge 57 (tx i) with c | c
      · exact absurd (nI_lt (a := 57) c (by omega)) b
      · exact c
  · rintro ⟨c1, c2, c3⟩
    rcases a with a | a
    · exact nI_nlt (a := tx i) (b := 48) c2 (by omega) a
    · exact nI_nlt (a := 57) (b := tx i) c3 (by decide) a
theorem m_nextNum (hT : TXT tx l f) {p : Nat} (hp : p < l) (hd : 48 ≤ tx p ∧ tx p ≤ 57) {Q : Int32 → Int32 → Int32 → Int32 → Prop}
    (hQ : ∀ num, ((tks tx l p).2.2.1 = 1 → num = nI (tks tx l p).2.2.2) → Q (nI (tks tx l p).2.1) (nI p) (mTk (tks tx l p).2.2.1 (tks tx l p).2.2.2) num) : ∃ n, wp_X9_next_h82 (nI l) f Q n (nI p) (nI p) 0 0 := by
  have hl := hT.1
  have hend : ∀ (d i v : Nat), i + d = l → v ≤ 99999 → nve tx (l - p) p 0 = (i, v) → ¬ (i < l ∧ 48 ≤ tx i ∧ tx i ≤ 57) →
      (((9999 : Int32) < nI v → wp_X9_next_b181 (nI l) f Q (nI i) (nI p) 0 (nI v)) ∧ (¬ (9999 : Int32) < nI v → vp_in (nI p) 120 ∧ (¬ (f (nI p).toNatClampNeg) = (48 : Int32) → wp_X9_next_b186 (nI l) f Q (nI i) (nI p) 0 (nI v)) ∧ ((f (nI p).toNatClampNeg) = (48 : Int32) → ((nI i - nI p) ≤ (1 : Int32) → wp_X9_next_b186 (nI l) f Q (nI i) (nI p) 0 (nI v)) ∧ (¬ (nI i - nI p) ≤ (1 : Int32) → wp_X9_next_b181 (nI l) f Q (nI i) (nI p) 0 (nI v))))) := by
    intro d i v hi hv he hno
    have hb := nve_b tx (l - p) p 0
    rw [he] at hb
    obtain ⟨hb1, hb2, -⟩ := hb
    have hb1' : p ≤ i := hb1
    unfold wp_X9_next_b181 wp_X9_next_b186 wp_X9_next_b187 wp_X9_next_b254
    rw [nI_cl (by omega), (hT.2 p hp).2, nI_subN hb1']
    have h255 := (hT.2 p hp).1
    have hgood : ¬ (9999 < v ∨ (tx p = 48 ∧ 1 < i - p)) → Q (nI i) (nI p) 0 (nI v) := by
      intro c
      have := hQ (nI v)
      rw [tks_n hp hd (by rw [he]; exact c), he] at this
      exact this (fun _ => rfl)
    have hbad : (9999 < v ∨ (tx p = 48 ∧ 1 < i - p)) → Q (nI i) (nI p) (-2) (nI v) := by
      intro c
      have := hQ (nI v)
      rw [tks_b hp hd (by rw [he]; exact c), he] at this
      exact this (fun q => by cases q)
    refine bLT 9999 v rfl rfl (by decide) (by omega) (fun q => hbad (Or.inl q)) (fun q => ⟨vin (by omega) (by decide), ?_⟩)
    refine bNE (tx p) 48 rfl rfl (by omega) (by decide) (fun c => hgood ?_) (fun c => ?_)
    · rintro (a | a)
      · omega
      · exact c a.1
    · refine bLE (i - p) 1 rfl rfl (by omega) (by decide) (fun e => hgood ?_) (fun e => hbad (Or.inr ⟨c, e⟩))
      rintro (a | a)
      · omega
      · omega
  have hloop : ∀ (d i v : Nat), i + d = l → v ≤ 99999 → nve tx (l - p) p 0 = nve tx d i v → wp_X9_next_h82 (nI l) f Q (d + 1) (nI i) (nI p) 0 (nI v) := by
    intro d
    induction d with
    | zero =>
      intro i v hi hv he
      rw [wp_X9_next_h82]
      refine m_isFigure hT (by omega) (fun q _ => by omega) (fun q => ⟨fun _ => ?_, fun q => absurd rfl q⟩)
      exact hend 0 i v hi hv he q
    | succ d ih =>
      intro i v hi hv he
      rw [wp_X9_next_h82]
      refine m_isFigure hT (by omega) (fun q c => ⟨fun q => absurd q (by decide), fun _ => ?_⟩) (fun q => ⟨fun _ => ?_, fun q => absurd rfl q⟩)
      · unfold wp_X9_next_b127
        have h255 := (hT.2 i q).1
        have hnext := ih (i + 1) (if 9999 < v then v else 10 * v + tx i - 48) (by omega) (by split <;> omega) (by rw [he, nve_y c])
        rw [nI_cl (by omega), (hT.2 i q).2, nI_Lmul, nI_add, nI_subL (by omega)]
        refine bLE v 9999 rfl rfl (by omega) (by decide) (fun e => ⟨vin (by omega) (by decide), ?_⟩) (fun e => ?_)
        · intro y hy
          have hy' : y = nI (i + 1) := by rw [hy]; exact nI_1 i
          rw [if_neg (by omega)] at hnext
          rw [hy']; exact hnext
        · intro y hy
          have hy' : y = nI (i + 1) := by rw [hy]; exact nI_1 i
          rw [if_pos (by omega)] at hnext
          rw [hy']; exact hnext
      · exact hend (d + 1) i v hi hv (by rw [he, nve_n (fun c => q ⟨by omega, c⟩)]) q
  exact ⟨l - p + 1, hloop (l - p) p 0 (by omega) (by decide) rfl⟩
theorem m_next (hT : TXT tx l f) {i : Nat} (hi : i ≤ l) {pl tk nu : Int32} {Q : Int32 → Int32 → Int32 → Int32 → Prop}
    (hQ : ∀ num, ((tkn tx l i).2.2.1 = 1 → num = nI (tkn tx l i).2.2.2) → Q (nI (tkn tx l i).2.1) (nI (tkn tx l i).1) (mTk (tkn tx l i).2.2.1 (tkn tx l i).2.2.2) num) : wp_X9_next (nI l) f (nI i) pl tk nu Q := by
  have hl := hT.1
  unfold tkn at hQ
  have hend : ∀ p, p ≤ l → skp tx (l - i) i = p → wp_X9_next_b38 (nI l) f Q (nI p) pl tk nu := by
    intro p hp hps
    rw [hps] at hQ
    rw [tks_1] at hQ
    unfold wp_X9_next_b38 wp_X9_next_b227 wp_X9_next_b241 wp_X9_next_b254
    refine bNE p l rfl rfl (by omega) (by omega) (fun q => ?_) (fun q => ?_)
    · have hpl : p < l := by omega
      obtain ⟨h255, hfi⟩ := hT.2 p hpl
      rw [nI_cl (by omega), hfi]
      refine m_isFigure hT hp (fun _ c => ⟨fun q => absurd q (by decide), fun _ => m_nextNum hT hpl c hQ⟩) (fun c => ⟨fun _ => ⟨vin (by omega) (by decide), ?_⟩, fun q => absurd rfl q⟩)
      have hc : ¬ (48 ≤ tx p ∧ tx p ≤ 57) := fun d => c ⟨hpl, d⟩
      have hlet := hQ nu
      rw [tks_l hpl hc] at hlet
      have hlet' : Q (nI (p + 1)) (nI p) (mTk 2 (tx p)) nu := hlet (fun q => by cases q)
      have hm : mTk 2 (tx p) = if (97 ≤ tx p ∧ tx p ≤ 122) ∨ tx p = 59 then nI (tx p) else -2 := rfl
      rw [hm] at hlet'
      have hyes : ((97 ≤ tx p ∧ tx p ≤ 122) ∨ tx p = 59) → ∀ x : Int32, x = nI p + 1 → Q x (nI p) (nI (tx p)) nu := by
        intro d x hx
        have hx' : x = nI (p + 1) := by rw [hx]; exact nI_1 p
        rw [if_pos d] at hlet'
        rw [hx']; exact hlet'
      have hno : ¬ ((97 ≤ tx p ∧ tx p ≤ 122) ∨ tx p = 59) → ∀ x : Int32, x = nI p + 1 → Q x (nI p) (-2) nu := by
        intro d x hx
        have hx' : x = nI (p + 1) := by rw [hx]; exact nI_1 p
        rw [if_neg d] at hlet'
        rw [hx']; exact hlet'
      refine m_in (fun a b => ⟨fun _ => ⟨vin (by omega) (by decide), hyes (Or.inl ⟨?_, ?_⟩)⟩, fun q => absurd q (by decide)⟩) (fun a => ⟨fun q => absurd rfl q, fun _ => ⟨vin (by omega) (by decide), ?_⟩⟩)
      · rcases Nat.lt_or_ge (tx p) 97 with d | d
        · exact absurd (nI_lt (b := 97) d (by decide)) a
        · exact d
      · rcases Nat.lt_or_ge 122 (tx p) with d | d
        · exact absurd (nI_lt (a := 122) d (by omega)) b
        · exact d
      · have hn97 : ¬ (97 ≤ tx p ∧ tx p ≤ 122) := by
          rintro ⟨d1, d2⟩
          rcases a with a | a
          · exact nI_nlt (a := tx p) (b := 97) d1 (by omega) a
          · exact nI_nlt (a := 122) (b := tx p) d2 (by decide) a
        refine bNE (tx p) 59 rfl rfl (by omega) (by decide) (fun d => hno ?_) (fun d => ⟨vin (by omega) (by decide), hyes (Or.inr d)⟩)
        rintro (e | e)
        · exact hn97 e
        · exact d e
    · have := hQ nu
      rw [tks_e (by omega)] at this
      exact this (fun q => by cases q)
  have hloop : ∀ (d j : Nat), j + d = l → skp tx (l - i) i = skp tx d j → wp_X9_next_h0 (nI l) f Q (d + 1) (nI j) pl tk nu := by
    intro d
    induction d with
    | zero =>
      intro j hj he
      rw [wp_X9_next_h0]
      refine bLE l j rfl rfl (by omega) (by omega) (fun _ => ?_) (fun q => by omega)
      exact hend j (by omega) he
    | succ d ih =>
      intro j hj he
      rw [wp_X9_next_h0]
      obtain ⟨h255, hfi⟩ := hT.2 j (by omega)
      refine bLE l j rfl rfl (by omega) (by omega) (fun q => by omega) (fun _ => ?_)
      rw [nI_cl (by omega), hfi]
      refine ⟨vin (by omega) (by decide), ?_⟩
      refine bNE (tx j) 32 rfl rfl (by omega) (by decide) (fun c => ?_) (fun c => ?_)
      · exact hend j (by omega) (by rw [he, skp_n c])
      · intro y hy
        have hy' : y = nI (j + 1) := by rw [hy]; exact nI_1 j
        rw [hy']
        exact ih (j + 1) (by omega) (by rw [he, skp_y c])
  exact ⟨l - i + 1, hloop (l - i) i (by omega) rfl⟩
theorem m_isMore (hT : TXT tx l f) {i : Nat} (hi : i ≤ l) {Q : Int32 → Int32 → Prop}
    (h1 : skp tx (l - i) i < l → Q 1 (nI (skp tx (l - i) i))) (h0 : l ≤ skp tx (l - i) i → Q 0 (nI (skp tx (l - i) i))) : wp_X9_isMore (nI l) f (nI i) Q := by
  have hl := hT.1
  have hend : ∀ p, p ≤ l → skp tx (l - i) i = p → wp_X9_isMore_b38 (nI l) f Q (nI p) := by
    intro p hp hps
    rw [hps] at h1 h0
    unfold wp_X9_isMore_b38 wp_X9_isMore_b54
    exact bLE l p rfl rfl (by omega) (by omega) (fun q => ⟨Or.inl rfl, h0 q⟩) (fun q => ⟨Or.inr rfl, h1 q⟩)
  have hloop : ∀ (d j : Nat), j + d = l → skp tx (l - i) i = skp tx d j → wp_X9_isMore_h0 (nI l) f Q (d + 1) (nI j) := by
    intro d
    induction d with
    | zero =>
      intro j hj he
      rw [wp_X9_isMore_h0]
      refine bLE l j rfl rfl (by omega) (by omega) (fun _ => ?_) (fun q => by omega)
      exact hend j (by omega) he
    | succ d ih =>
      intro j hj he
      rw [wp_X9_isMore_h0]
      obtain ⟨h255, hfi⟩ := hT.2 j (by omega)
      refine bLE l j rfl rfl (by omega) (by omega) (fun q => by omega) (fun _ => ?_)
      rw [nI_cl (by omega), hfi]
      refine ⟨vin (by omega) (by decide), ?_⟩
      refine bNE (tx j) 32 rfl rfl (by omega) (by decide) (fun c => ?_) (fun c => ?_)
      · exact hend j (by omega) (by rw [he, skp_n c])
      · intro y hy
        have hy' : y = nI (j + 1) := by rw [hy]; exact nI_1 j
        rw [hy']
        exact ih (j + 1) (by omega) (by rw [he, skp_y c])
  exact ⟨l - i + 1, hloop (l - i) i (by omega) rfl⟩
end
