/-! ===== answers: reading, now, rivals, count, change ===== -/
def sel (p : Int32) (f : Nat → Int32) (N : Nat) (d : Int32) : Int32 := if p < 0 ∨ nI N ≤ p then d else f p.toNatClampNeg
theorem sel_at {k N : Nat} {f : Nat → Int32} {d : Int32} (hk : k < N) (hN : N < 2147483648) : sel (nI k) f N d = f k := by
  unfold sel
  rw [if_neg, nI_cl (by omega)]
  rintro (c | c)
  · exact nI_pos (by omega) c
  · exact nI_ge hk hN c
theorem sel_out {N : Nat} {p : Int32} {f : Nat → Int32} {d : Int32} (hN : N < 2147483648) (h : p.toInt < 0 ∨ (N : Int) - 1 < p.toInt) : sel p f N d = d := by
  unfold sel
  rw [if_pos]
  rcases h with h | h
  · exact Or.inl (by rw [Int32.lt_iff_toInt_lt]; exact h)
  · exact Or.inr (by rw [Int32.le_iff_toInt_le, nI_toInt hN]; omega)
def rdf (h : HS) (n k : Nat) : Nat → Int32
  | 0 => nI (hDay h k)
  | 1 => nI (hCnt h k)
  | 2 => nI (hWor h k)
  | 3 => nI ((pd h n k + 1) % 3)
  | 4 => aFar h n k
  | _ => nI (if pd h n k = 2 then rsn h (sgm h (px h n k)) k else 0)
def RDA (h : HS) (n : Nat) (p1 p2 : Int32) : Int32 := if p1 < 0 ∨ nI n ≤ p1 then -1 else sel p2 (rdf h n p1.toNatClampNeg) 6 (-1)
theorem RDA_at {h : HS} {n k : Nat} {p2 : Int32} (hn : n ≤ 10) (hk : k < n) : RDA h n (nI k) p2 = sel p2 (rdf h n k) 6 (-1) := by
  unfold RDA
  rw [if_neg, nI_cl (by omega)]
  rintro (c | c)
  · exact nI_pos (by omega) c
  · exact nI_ge hk (by omega) c
theorem first_at {h : HS} {n k : Nat} (hk : k < n) (hp : pd h n k ≠ 2) : ∃ s t, s < 2 ∧ t < 4 ∧ pd h n k = s ∧ px h n (k + 1) = ix k s t := by
  rcases nx_cases h (x := px h n k) hk with ⟨s, t, h1, h2, h3, -⟩ | ⟨h2, -⟩
  · refine ⟨s, t, h1, ?_, ?_, ?_⟩
    · have := stt_le h3; omega
    · show (nx h n (px h n k) k).1 = s; rw [h2]
    · show (nx h n (px h n k) k).2 = _; rw [h2]
  · exact absurd (show (nx h n (px h n k) k).1 = 2 by rw [h2]) hp
section
variable {h : HS} {n : Nat} {rate wrap : Int32} {days firsts seconds : Nat → Int32} {sd sf sg U r : Nat → Int32} {w : Nat → Int64} {e an fs rs : Nat → Int32} {kp s1 s2 kn : Int32} {now : Nat → Int32}
theorem x_reading (hb : HB h n) (hc : HC h n rate wrap (nI n) days firsts seconds) (hS : SO h n sd sf sg U r w e an fs rs kp s1 s2) {p1 p2 : Int32} {Q : Int32 → Prop} (hQ : Q (RDA h n p1 p2)) : wp_X8_reading days firsts seconds (nI n) sf fs rs p1 p2 Q := by
  have hn := hb.1
  obtain ⟨hSR, -, -, -, -, hF, -, -⟩ := hS
  unfold wp_X8_reading
  refine x_has (fun q1 q2 => ⟨fun _ => ?_, fun q => absurd q (by decide)⟩) (fun q => ⟨fun q => absurd rfl q, fun _ => ?_⟩)
  · obtain ⟨k, hk, rfl⟩ := below (by omega) q1 q2
    rw [RDA_at hn hk] at hQ
    obtain ⟨c1, c2, c3⟩ := hc.2.2.2 k hk
    obtain ⟨f1, f2⟩ := hF.1 k hk
    have hpx : fs k = 0 ∧ pd h n k = 2 ∨ ∃ s t, s < 2 ∧ t < 4 ∧ pd h n k = s ∧ px h n (k + 1) = ix k s t ∧ fs k = nI (ix k s t) := by
      by_cases c : pd h n k = 2
      · rw [if_pos c] at f1; exact Or.inl ⟨f1, c⟩
      · rw [if_neg c] at f1
        obtain ⟨s, t, a, b, c', d⟩ := first_at hk c
        exact Or.inr ⟨s, t, a, b, c', d, by rw [f1, d]⟩
    have hix : ∀ s t, s < 2 → t < 4 → ix k s t < 88 := by intro s t _ _; unfold ix; omega
    rw [nI_cl (by omega)]
    refine ⟨fun q => ?_, fun q => ⟨vin (by omega) (by decide), ?_⟩, fun q => ⟨vin (by omega) (by decide), ?_⟩, fun q => ⟨vin (by omega) (by decide), ?_⟩, fun q => ?_, fun q => ?_, fun q => ?_⟩
    · rw [sel_out (by decide) (by rcases q with q | q; exact Or.inl q; exact Or.inr (by omega))] at hQ; exact hQ
    · rw [q, show (0 : Int32) = nI 0 from rfl, sel_at (by decide) (by decide)] at hQ; rw [c1]; exact hQ
    · rw [q, show (1 : Int32) = nI 1 from rfl, sel_at (by decide) (by decide)] at hQ; rw [c2]; exact hQ
    · rw [q, show (2 : Int32) = nI 2 from rfl, sel_at (by decide) (by decide)] at hQ; rw [c3]; exact hQ
    · rw [q, show (3 : Int32) = nI 3 from rfl, sel_at (by decide) (by decide)] at hQ
      unfold wp_X5_howKept wp_X6_slipOf wp_X5_howKept_b24
      rw [nI_cl (by omega)]
      refine ⟨vin (by omega) (by decide), ?_⟩
      rcases hpx with ⟨e1, e2⟩ | ⟨s, t, e1, e2, e3, e4, e5⟩
      · rw [e1]
        refine ⟨fun q => absurd rfl q, fun _ => ?_⟩
        have : Q (nI ((pd h n k + 1) % 3)) := hQ
        rw [e2] at this
        exact this
      · rw [e5]
        obtain ⟨i1, i2, i3, i4⟩ := ix_8 (k := k) e1 e2
        have hl := hix s t e1 e2
        refine ⟨fun _ => ⟨vin (by omega) (by decide), ?_⟩, fun q => absurd q (nI_ne0 (by omega) (by omega))⟩
        rw [nI_divL (by omega) (by decide) (by decide), show nI (ix k s t / 4) - nI (ix k s t / 4) / (2 : Int32) * (2 : Int32) = nI (ix k s t / 4 % 2) from pk_rem (d := 2) (by omega) (by decide) (by decide), i2]
        show Q ((1 : Int32) + nI s)
        rw [nI_Ladd]
        have : Q (nI ((pd h n k + 1) % 3)) := hQ
        rw [e3, Nat.mod_eq_of_lt (by omega), Nat.add_comm] at this
        exact this
    · rw [q, show (4 : Int32) = nI 4 from rfl, sel_at (by decide) (by decide)] at hQ
      have hQ' : Q (aFar h n k) := hQ
      unfold wp_X5_farOf wp_X5_farOf_b28
      rw [nI_cl (by omega)]
      refine ⟨vin (by omega) (by decide), ?_⟩
      unfold aFar at hQ'
      rcases hpx with ⟨e1, e2⟩ | ⟨s, t, e1, e2, e3, e4, e5⟩
      · rw [e1]
        rw [if_pos e2] at hQ'
        exact ⟨fun q => absurd rfl q, fun _ => hQ'⟩
      · rw [e5]
        obtain ⟨i1, i2, i3, i4⟩ := ix_8 (k := k) e1 e2
        have hl := hix s t e1 e2
        rw [if_neg (by omega), e4, sgm_ix h e1 e2] at hQ'
        refine ⟨fun _ => ⟨vin (by omega) (by decide), vin hl (by decide), ?_⟩, fun q => absurd q (nI_ne0 (by omega) (by omega))⟩
        rw [nI_cl (by omega), (hSR.2 k s t hk e1 e2).2.1]
        exact hQ'
    · rw [q, show (5 : Int32) = nI 5 from rfl, sel_at (by decide) (by decide)] at hQ
      unfold wp_X5_reasonOf
      rw [nI_cl (by omega), f2]
      exact ⟨vin (by omega) (by decide), hQ⟩
  · unfold RDA at hQ
    rw [if_pos q] at hQ
    exact hQ
theorem m_reading (hb : HB h n) (hM : HM h n now) {best first : Int32} {many : Int64} {cert poss : Int32} {goods : Nat → Int32} {t1 t2 t3 : Int32} (hk' : kn = 0 ∨ (kn = 1 ∧ KN h n best first many cert poss goods)) {p1 p2 : Int32} {Q : Int32 → Int32 → Int32 → Int32 → Int64 → Int32 → Int32 → (Nat → Int32) → Int32 → Int32 → Int32 → Prop}
    (hQ : ∀ (kn best first : Int32) (many : Int64) (cert poss : Int32) (goods : Nat → Int32) (t1 t2 t3 : Int32), (kn = 0 ∨ (kn = 1 ∧ KN h n best first many cert poss goods)) → Q (RDA h n p1 p2) kn best first many cert poss goods t1 t2 t3) : wp_X9_reading now kn best first many cert poss goods t1 t2 t3 p1 p2 Q := by
  have hn := hb.1
  unfold wp_X9_reading wp_X9_reading_b17
  refine m_isReading hn hM (fun q1 q2 => ⟨fun q => absurd q (by decide), fun _ => ?_⟩) (fun q => ⟨fun _ => ?_, fun q => absurd rfl q⟩)
  · obtain ⟨k, hk, rfl⟩ := below (by omega) q1 q2
    rw [RDA_at hn hk] at hQ
    refine m_in (fun a1 a2 => ⟨fun _ => ?_, fun q => absurd q (by decide)⟩) (fun q => ⟨fun q => absurd rfl q, fun _ => ?_⟩)
    · obtain ⟨j, hj, hpj⟩ := between (n := 5) rfl a1 a2
      refine m_knows hb hM hk' (fun best first many cert poss goods t1 t2 t3 hK => ?_)
      have hfin := fun t1 t2 t3 => hQ 1 best first many cert poss goods t1 t2 t3 (Or.inr ⟨rfl, hK⟩)
      obtain ⟨c1, c2, c3⟩ := hM.2.2.2 k hk
      have hfc := hK.2.1
      rw [nI_Ladd, nI_Ladd, nI_Ladd, nI_cl (show 3 + k < 2147483648 by omega), nI_cl (show 13 + k < 2147483648 by omega), nI_cl (show 23 + k < 2147483648 by omega)]
      refine ⟨fun q => ?_, fun q => ⟨vin (by omega) (by decide), ?_⟩, fun q => ⟨vin (by omega) (by decide), ?_⟩, fun q => ⟨vin (by omega) (by decide), ?_⟩, fun q => ?_, fun q => ?_⟩
      · have hj5 : j = 5 := by
          rw [hpj, nI_toInt (by omega)] at q
          omega
        subst hj5
        rw [hfc]
        refine m_reasonOf hb hM hk (fun t1 t2 t3 => ?_)
        have := hfin t1 t2 t3
        rw [hpj, sel_at (by decide) (by decide)] at this
        rw [← hfc]
        exact this
      · have := hfin t1 t2 t3
        rw [q, show (0 : Int32) = nI 0 from rfl, sel_at (by decide) (by decide)] at this; rw [c1]; exact this
      · have := hfin t1 t2 t3
        rw [q, show (1 : Int32) = nI 1 from rfl, sel_at (by decide) (by decide)] at this; rw [c2]; exact this
      · have := hfin t1 t2 t3
        rw [q, show (2 : Int32) = nI 2 from rfl, sel_at (by decide) (by decide)] at this; rw [c3]; exact this
      · have := hfin t1 t2 t3
        rw [q, show (3 : Int32) = nI 3 from rfl, sel_at (by decide) (by decide)] at this
        rw [hfc]
        refine m_how hb hM hk ?_
        have hpd := pd_lt h n k
        rw [nI_addL, show nI (pd h n k + 1) - nI (pd h n k + 1) / (3 : Int32) * (3 : Int32) = nI ((pd h n k + 1) % 3) from pk_rem (d := 3) (by omega) (by decide) (by decide)]
        rw [← hfc]
        exact this
      · rw [hfc]
        refine m_farOf hb hM hk (fun t1 t2 t3 => ?_)
        have := hfin t1 t2 t3
        rw [q, show (4 : Int32) = nI 4 from rfl, sel_at (by decide) (by decide)] at this
        rw [← hfc]
        exact this
    · have := hQ kn best first many cert poss goods t1 t2 t3 hk'
      rw [sel_out (by decide) (by
        rcases q with q | q
        · exact Or.inl (by rw [Int32.lt_iff_toInt_lt] at q; exact q)
        · exact Or.inr (by rw [Int32.lt_iff_toInt_lt] at q; exact q))] at this
      exact this
  · have := hQ kn best first many cert poss goods t1 t2 t3 hk'
    unfold RDA at this
    rw [if_pos q] at this
    exact this
/-- now -/
def nwf (h : HS) (n : Nat) (g m : Nat) : Nat → Int32
  | 0 => nI (GG h n 0 none).1
  | 1 => nI (kc h n n)
  | 2 => nI (GG h n 0 none).2.2.1
  | 3 => nI (GG h n 0 none).2.2.2
  | 4 => sAt (swp (sA h) (sB h n) (GG h n 0 none).1 (n - 1))
  | 5 => sGood (swp (sA h) (sB h n) (GG h n 0 none).1 (n - 1))
  | 6 => nI g
  | _ => nI m
def NWA (h : HS) (n g m : Nat) (p : Int32) : Int32 := sel p (nwf h n g m) 8 (-1)
theorem x_now (hS : SO h n sd sf sg U r w e an fs rs kp s1 s2) {g m : Nat} {p1 : Int32} {Q : Int32 → Prop} (hQ : Q (NWA h n g m p1)) : wp_X8_now (nI g) (nI m) r e an kp s1 s2 p1 Q := by
  obtain ⟨-, o1, o2, o3, o4, o5, o6, o7⟩ := hS
  unfold NWA at hQ
  unfold wp_X8_now wp_X5_bestGood wp_X5_certain wp_X5_possible
  rw [show (0 : Int32).toNatClampNeg = 0 from rfl, o1, o3, o4, o5.2, o6, o7]
  refine ⟨fun q => ?_, fun q => ?_, fun q => ?_, fun q => ?_, fun q => ?_, fun q => ?_, fun q => ?_, fun q => ?_, fun q => ?_⟩
  · rw [sel_out (by decide) (by rcases q with q | q; exact Or.inl q; exact Or.inr (by omega))] at hQ; exact hQ
  · rw [q, show (0 : Int32) = nI 0 from rfl, sel_at (by decide) (by decide)] at hQ; exact hQ
  · rw [q, show (1 : Int32) = nI 1 from rfl, sel_at (by decide) (by decide)] at hQ; exact hQ
  · rw [q, show (2 : Int32) = nI 2 from rfl, sel_at (by decide) (by decide)] at hQ; exact hQ
  · rw [q, show (3 : Int32) = nI 3 from rfl, sel_at (by decide) (by decide)] at hQ; exact hQ
  · rw [q, show (4 : Int32) = nI 4 from rfl, sel_at (by decide) (by decide)] at hQ; exact hQ
  · rw [q, show (5 : Int32) = nI 5 from rfl, sel_at (by decide) (by decide)] at hQ; exact hQ
  · rw [q, show (6 : Int32) = nI 6 from rfl, sel_at (by decide) (by decide)] at hQ; exact hQ
  · rw [q, show (7 : Int32) = nI 7 from rfl, sel_at (by decide) (by decide)] at hQ; exact hQ
theorem msk_I : ∀ n, n < 11 → ∀ t, t < 11 → t ≤ n → nI (2 ^ n - 1) &&& (nI (2 ^ t - 1) ^^^ (-1 : Int32)) = nI (2 ^ n - 2 ^ t) := by decide +kernel
theorem m_swap (hb : HB h n) (hM : HM h n now) {goods : Nat → Int32} (hg : ∀ S, S < 2 ^ n → goods S = nI (VB h n S)) {sm' : Int32} {Q : Int32 → Int32 → Prop} (hQ : Q (sAt (swp (sA h) (sB h n) (GG h n 0 none).1 (n - 1))) (nI (swp (sA h) (sB h n) (GG h n 0 none).1 (n - 1)).1)) : wp_X9_swap now (nI (GG h n 0 none).1) goods sm' Q := by
  have hn := hb.1
  have hp := p2_le hn
  have hG := (GG_ok hb n 0 none (by omega)).1
  have hm : ∀ j, j + 1 ≤ n ∨ j = 0 → (swp (sA h) (sB h n) (GG h n 0 none).1 j).1 ≤ 1000 := by
    intro j
    induction j with
    | zero => intro _; show (GG h n 0 none).1 ≤ 1000; omega
    | succ j ih =>
      intro hj
      have := ih (by omega)
      have := sAB_le hb (show j + 1 ≤ n by omega)
      unfold swp
      split
      · show _ + _ ≤ 1000; omega
      · assumption
  have hloop : ∀ (d j : Nat), j + d = n - 1 → (n = 0 → j = 0) → wp_X9_swap_h24 now (nI (GG h n 0 none).1) goods Q (d + 1) (sAt (swp (sA h) (sB h n) (GG h n 0 none).1 j)) (nI (2 ^ n - 1)) (nI (j + 1)) (nI (swp (sA h) (sB h n) (GG h n 0 none).1 j).1) := by
    intro d
    induction d with
    | zero =>
      intro j hj hj0
      rw [wp_X9_swap_h24]
      dsimp only
      rw [show now (0 : Int32).toNatClampNeg = nI n from hM.1]
      refine bLE n (j + 1) rfl rfl (by omega) (by omega) (fun _ => ?_) (fun q => by omega)
      rw [show n - 1 = j by omega] at hQ
      exact hQ
    | succ d ih =>
      intro j hj hj0
      rw [wp_X9_swap_h24]
      dsimp only
      rw [show now (0 : Int32).toNatClampNeg = nI n from hM.1]
      refine bLE n (j + 1) rfl rfl (by omega) (by omega) (fun q => by omega) (fun _ => ?_)
      intro x hx
      have hpj : 2 ^ (j + 1) ≤ 2 ^ n := Nat.pow_le_pow_right (by decide) (by omega)
      have hpj0 : 0 < 2 ^ (j + 1) := Nat.two_pow_pos _
      rw [shl1 (j + 1) (by omega), nI_subL (by omega)] at hx
      subst hx
      rw [msk_I n (by omega) (j + 1) (by omega) (by omega), nI_cl (by omega), nI_cl (by omega), hg _ (by omega), hg _ (by omega), VB_ahead hb (by omega) (by omega), VB_from hb (by omega) (by omega), nI_add]
      refine ⟨vin (by omega) (by decide), vin (by omega) (by decide), ?_⟩
      intro y hy
      subst hy
      obtain ⟨l1, l2⟩ := sAB_le hb (show j + 1 ≤ n by omega)
      have l3 := hm j (by omega)
      have hnext := ih (j + 1) (by omega) (by omega)
      unfold wp_X9_swap_b76 wp_X9_swap_b96
      refine bLE _ _ rfl rfl (by omega) (by omega) (fun q => ?_) (fun q => ?_)
      · have hsame : swp (sA h) (sB h n) (GG h n 0 none).1 (j + 1) = swp (sA h) (sB h n) (GG h n 0 none).1 j := by
          show (if _ then _ else _) = _
          rw [if_neg (by omega)]
        rw [hsame] at hnext
        refine bLE _ _ rfl rfl (by omega) (by omega) (fun _ => ?_) (fun q2 => by omega)
        intro z hz
        have hz' : z = nI (j + 1 + 1) := by rw [hz]; exact nI_1 (j + 1)
        subst hz'
        exact hnext
      · have hnew : swp (sA h) (sB h n) (GG h n 0 none).1 (j + 1) = (sA h (j + 1) + sB h n (j + 1), some (j + 1)) := by
          show (if _ then _ else _) = _
          rw [if_pos (by omega)]
        rw [hnew] at hnext
        refine bLE _ _ rfl rfl (by omega) (by omega) (fun q2 => by omega) (fun _ => ?_)
        intro z hz
        have hz' : z = nI (j + 1 + 1) := by rw [hz]; exact nI_1 (j + 1)
        subst hz'
        exact hnext
  unfold wp_X9_swap
  intro y hy
  have hpn : 0 < 2 ^ n := Nat.two_pow_pos n
  rw [show now (0 : Int32).toNatClampNeg = nI n from hM.1, shl1 n (by omega), nI_subL (by omega)] at hy
  subst hy
  exact ⟨n - 1 + 1, hloop (n - 1) 0 (by omega) (fun _ => rfl)⟩
theorem sAt_9 {v : Nat × Option Nat} (hv : ∀ t, v.2 = some t → t < 1000) {A B : Prop} (h1 : sGood v = nI v.1 → A) (h2 : sGood v = -9 → B) : (¬ sAt v = (-9 : Int32) → A) ∧ (sAt v = (-9 : Int32) → B) := by
  obtain ⟨g, o⟩ := v
  cases o with
  | none => exact ⟨fun q => absurd rfl q, fun _ => h2 rfl⟩
  | some t => exact ⟨fun _ => h1 rfl, fun q => absurd q (nI_ne9 (by have := hv t rfl; omega))⟩
theorem swp_lt {A B : Nat → Nat} {b : Nat} : ∀ j t, (swp A B b j).2 = some t → t ≤ j
  | 0, t, e => by cases e
  | j + 1, t, e => by
    unfold swp at e
    split at e
    · have := Option.some.inj e; omega
    · have := swp_lt j t e; omega
theorem m_now (hb : HB h n) (hM : HM h n now) {best first : Int32} {many : Int64} {cert poss : Int32} {goods : Nat → Int32} {t1 t2 t3 t4 : Int32} (hk' : kn = 0 ∨ (kn = 1 ∧ KN h n best first many cert poss goods)) {w' t' : Nat → Nat} {np s' : Nat} {mw mt : Nat → Int32} (hpb : PB w' t' np s') (hf : ∀ k, k < np → mw k = nI (w' k)) (hs : ∀ k, k < np → mt k = nI (t' k)) {m : Nat} {p1 : Int32} {Q : Int32 → Int32 → Int32 → Int32 → Int64 → Int32 → Int32 → (Nat → Int32) → Int32 → Int32 → Int32 → Int32 → Prop}
    (hQ : ∀ (kn best first : Int32) (many : Int64) (cert poss : Int32) (goods : Nat → Int32) (t1 t2 t3 t4 : Int32), (kn = 0 ∨ (kn = 1 ∧ KN h n best first many cert poss goods)) → Q (NWA h n (PP w' t' np 0 s').1 m p1) kn best first many cert poss goods t1 t2 t3 t4) : wp_X9_now now (nI np) (nI s') mw mt (nI m) kn best first many cert poss goods t1 t2 t3 t4 p1 Q := by
  have hn := hb.1
  unfold NWA at hQ
  unfold wp_X9_now
  refine m_knows hb hM hk' (fun best first many cert poss goods t1 t2 t3 hK => ?_)
  have hfin := fun t1 t2 t3 t4 => hQ 1 best first many cert poss goods t1 t2 t3 t4 (Or.inr ⟨rfl, hK⟩)
  obtain ⟨k1, k2, k3, k4, k5, k6⟩ := hK
  refine ⟨fun q => ?_, fun q => ?_, fun q => ?_, fun q => ?_, fun q => ?_, fun q => ?_, fun q => ?_, fun q => ?_, fun q => ?_⟩
  · have := hfin t1 t2 t3 t4
    rw [sel_out (by decide) (by rcases q with q | q; exact Or.inl q; exact Or.inr (by omega))] at this; exact this
  · have := hfin t1 t2 t3 t4
    rw [q, show (0 : Int32) = nI 0 from rfl, sel_at (by decide) (by decide)] at this
    have e1 : nwf h n (PP w' t' np 0 s').1 m 0 = best := k1.symm
    rw [e1] at this; exact this
  · have hfin' := hfin
    rw [q, show (1 : Int32) = nI 1 from rfl, sel_at (by decide) (by decide)] at hfin'
    rw [k2] at hfin' ⊢
    exact m_keptOf hb hM (fun a b c => hfin' a b c t4)
  · have := hfin t1 t2 t3 t4
    rw [q, show (2 : Int32) = nI 2 from rfl, sel_at (by decide) (by decide)] at this
    have e1 : nwf h n (PP w' t' np 0 s').1 m 2 = cert := k4.symm
    rw [e1] at this; exact this
  · have := hfin t1 t2 t3 t4
    rw [q, show (3 : Int32) = nI 3 from rfl, sel_at (by decide) (by decide)] at this
    have e1 : nwf h n (PP w' t' np 0 s').1 m 3 = poss := k5.symm
    rw [e1] at this; exact this
  · have hfin' := hfin
    rw [q, show (4 : Int32) = nI 4 from rfl, sel_at (by decide) (by decide)] at hfin'
    rw [k1] at hfin' ⊢
    exact m_swap hb hM k6 (hfin' t1 t2 t3 _)
  · have hfin' := hfin
    rw [q, show (5 : Int32) = nI 5 from rfl, sel_at (by decide) (by decide)] at hfin'
    rw [k1] at hfin' ⊢
    refine m_swap hb hM k6 ?_
    unfold wp_X9_now_b99
    refine sAt_9 (fun t ht => by have := swp_lt _ _ ht; omega) (fun e1 => ?_) (fun e1 => ?_)
    · have := hfin' t1 t2 t3 (nI (swp (sA h) (sB h n) (GG h n 0 none).1 (n - 1)).1)
      rw [← e1] at this ⊢
      exact this
    · have := hfin' t1 t2 t3 (nI (swp (sA h) (sB h n) (GG h n 0 none).1 (n - 1)).1)
      rw [show nwf h n (PP w' t' np 0 s').1 m 5 = -9 from e1] at this
      exact this
  · have := hfin t1 t2 t3 t4
    rw [q, show (6 : Int32) = nI 6 from rfl, sel_at (by decide) (by decide)] at this
    refine m_held hpb hf hs ?_
    refine m_bits (by have := PP_lt (w := w') (t := t') (s := s') hpb.1; omega) ?_
    rw [PP_pb w' t' np 0 s' (by have := hpb.1; omega)]
    exact this
  · have := hfin t1 t2 t3 t4
    rw [q, show (7 : Int32) = nI 7 from rfl, sel_at (by decide) (by decide)] at this; exact this
theorem x_rivals (hS : SO h n sd sf sg U r w e an fs rs kp s1 s2) {Q : Int64 → Prop} (hQ : Q (lN (GG h n 0 none).2.1)) : wp_X8_rivals w Q := by
  obtain ⟨-, -, o2, -⟩ := hS
  unfold wp_X8_rivals wp_X5_bestWays
  rw [show w (0 : Int32).toNatClampNeg = lN (GG h n 0 none).2.1 from o2]
  exact hQ
theorem m_rivals (hb : HB h n) (hM : HM h n now) {best first : Int32} {many : Int64} {cert poss : Int32} {goods : Nat → Int32} {t1 t2 t3 : Int32} (hk' : kn = 0 ∨ (kn = 1 ∧ KN h n best first many cert poss goods)) {Q : Int64 → Int32 → Int32 → Int32 → Int64 → Int32 → Int32 → (Nat → Int32) → Int32 → Int32 → Int32 → Prop}
    (hQ : ∀ (kn best first : Int32) (many : Int64) (cert poss : Int32) (goods : Nat → Int32) (t1 t2 t3 : Int32), (kn = 0 ∨ (kn = 1 ∧ KN h n best first many cert poss goods)) → Q (lN (GG h n 0 none).2.1) kn best first many cert poss goods t1 t2 t3) : wp_X9_rivals now kn best first many cert poss goods t1 t2 t3 Q := by
  unfold wp_X9_rivals
  refine m_knows hb hM hk' (fun best first many cert poss goods t1 t2 t3 hK => ?_)
  have := hQ 1 best first many cert poss goods t1 t2 t3 (Or.inr ⟨rfl, hK⟩)
  rw [← hK.2.2.1] at this
  exact this
end
/-- count -/
def cnf (h : HS) (n np s l : Nat) : Nat → Int32
  | 0 => nI n
  | 1 => nI np
  | 2 => nI (hRate h)
  | 3 => nI (hWrap h)
  | 4 => nI s
  | _ => nI l
def CNA (h : HS) (n np s l : Nat) (p : Int32) : Int32 := sel p (cnf h n np s l) 6 (-1)
theorem x_count {h : HS} {n np s l : Nat} {rate wrap size : Int32} {days firsts seconds : Nat → Int32} (hc : HC h n rate wrap size days firsts seconds) {p1 : Int32} {Q : Int32 → Prop} (hQ : Q (CNA h n np s l p1)) : wp_X8_count rate wrap size (nI s) (nI np) (nI l) p1 Q := by
  obtain ⟨c1, c2, c3, -⟩ := hc
  subst c1; subst c2; subst c3
  unfold CNA at hQ
  unfold wp_X8_count
  refine ⟨fun q => ?_, fun q => ?_, fun q => ?_, fun q => ?_, fun q => ?_, fun q => ?_, fun q => ?_⟩
  · rw [sel_out (by decide) (by rcases q with q | q; exact Or.inl q; exact Or.inr (by omega))] at hQ; exact hQ
  · rw [q, show (0 : Int32) = nI 0 from rfl, sel_at (by decide) (by decide)] at hQ; exact hQ
  · rw [q, show (1 : Int32) = nI 1 from rfl, sel_at (by decide) (by decide)] at hQ; exact hQ
  · rw [q, show (2 : Int32) = nI 2 from rfl, sel_at (by decide) (by decide)] at hQ; exact hQ
  · rw [q, show (3 : Int32) = nI 3 from rfl, sel_at (by decide) (by decide)] at hQ; exact hQ
  · rw [q, show (4 : Int32) = nI 4 from rfl, sel_at (by decide) (by decide)] at hQ; exact hQ
  · rw [q, show (5 : Int32) = nI 5 from rfl, sel_at (by decide) (by decide)] at hQ; exact hQ
theorem m_count {h : HS} {n np s l : Nat} {now : Nat → Int32} (hM : HM h n now) {p1 : Int32} {Q : Int32 → Prop} (hQ : Q (CNA h n np s l p1)) : wp_X9_count (nI l) now (nI np) (nI s) p1 Q := by
  obtain ⟨c1, c2, c3, -⟩ := hM
  unfold CNA at hQ
  unfold wp_X9_count
  rw [show now (0 : Int32).toNatClampNeg = nI n from c1, show now (1 : Int32).toNatClampNeg = nI (hRate h) from c2, show now (2 : Int32).toNatClampNeg = nI (hWrap h) from c3]
  refine ⟨fun q => ?_, fun q => ?_, fun q => ?_, fun q => ?_, fun q => ?_, fun q => ?_, fun q => ?_⟩
  · rw [sel_out (by decide) (by rcases q with q | q; exact Or.inl q; exact Or.inr (by omega))] at hQ; exact hQ
  · rw [q, show (0 : Int32) = nI 0 from rfl, sel_at (by decide) (by decide)] at hQ; exact hQ
  · rw [q, show (1 : Int32) = nI 1 from rfl, sel_at (by decide) (by decide)] at hQ; exact hQ
  · rw [q, show (2 : Int32) = nI 2 from rfl, sel_at (by decide) (by decide)] at hQ; exact hQ
  · rw [q, show (3 : Int32) = nI 3 from rfl, sel_at (by decide) (by decide)] at hQ; exact hQ
  · rw [q, show (4 : Int32) = nI 4 from rfl, sel_at (by decide) (by decide)] at hQ; exact hQ
  · rw [q, show (5 : Int32) = nI 5 from rfl, sel_at (by decide) (by decide)] at hQ; exact hQ
/-- change -/
def chf (w t : Nat → Nat) (n s : Nat) (dy : Nat → Int32) (k : Nat) : Nat → Int32
  | 0 => dy k
  | 1 => nI (w k)
  | 2 => nI (t k)
  | _ => if (PP w t n 0 s).2.testBit k then 1 else 0
def CGA (w t : Nat → Nat) (n s : Nat) (dy : Nat → Int32) (p1 p2 : Int32) : Int32 := if p1 < 0 ∨ nI n ≤ p1 then -1 else sel p2 (chf w t n s dy p1.toNatClampNeg) 4 (-1)
theorem CGA_at {w t : Nat → Nat} {n s k : Nat} {dy : Nat → Int32} {p2 : Int32} (hn : n ≤ 6) (hk : k < n) : CGA w t n s dy (nI k) p2 = sel p2 (chf w t n s dy k) 4 (-1) := by
  unfold CGA
  rw [if_neg, nI_cl (by omega)]
  rintro (c | c)
  · exact nI_pos (by omega) c
  · exact nI_ge hk (by omega) c
section
variable {w t : Nat → Nat} {n s : Nat} {dy : Nat → Int32} {p1 p2 : Int32}
theorem x_change {ph cd cf cs : Nat → Int32} {hia : Int32} (hn : n ≤ 6) (hd : ∀ k, k < n → cd k = dy k) (hf : ∀ k, k < n → cf k = nI (w k)) (hs : ∀ k, k < n → cs k = nI (t k)) (hF : FH w t n s ph hia) {Q : Int32 → Prop} (hQ : Q (CGA w t n s dy p1 p2)) : wp_X8_change ph cd cf cs (nI n) p1 p2 Q := by
  unfold wp_X8_change wp_X8_change_b104
  refine x_has (fun q1 q2 => ⟨fun _ => ?_, fun q => absurd q (by decide)⟩) (fun q => ⟨fun q => absurd rfl q, fun _ => ?_⟩)
  · obtain ⟨k, hk, rfl⟩ := below (by omega) q1 q2
    rw [CGA_at hn hk] at hQ
    rw [nI_cl (by omega), hd k hk, hf k hk, hs k hk, hF.1 k hk]
    refine ⟨fun q => ?_, fun q => ⟨vin (by omega) (by decide), ?_⟩, fun q => ⟨vin (by omega) (by decide), ?_⟩, fun q => ⟨vin (by omega) (by decide), ?_⟩, fun q => ⟨vin (by omega) (by decide), ?_⟩⟩
    · rw [sel_out (by decide) (by rcases q with q | q; exact Or.inl q; exact Or.inr (by omega))] at hQ; exact hQ
    · rw [q, show (0 : Int32) = nI 0 from rfl, sel_at (by decide) (by decide)] at hQ; exact hQ
    · rw [q, show (1 : Int32) = nI 1 from rfl, sel_at (by decide) (by decide)] at hQ; exact hQ
    · rw [q, show (2 : Int32) = nI 2 from rfl, sel_at (by decide) (by decide)] at hQ; exact hQ
    · rw [q, show (3 : Int32) = nI 3 from rfl, sel_at (by decide) (by decide)] at hQ
      have hQ' : Q (if (PP w t n 0 s).2.testBit k then 1 else 0) := hQ
      cases c : (PP w t n 0 s).2.testBit k with
      | true => rw [c] at hQ'; exact ⟨fun q => absurd q (by decide), fun _ => hQ'⟩
      | false => rw [c] at hQ'; exact ⟨fun _ => hQ', fun q => absurd rfl q⟩
  · unfold CGA at hQ
    rw [if_pos q] at hQ
    exact hQ
theorem m_change {md mw mt : Nat → Int32} (hb : PB w t n s) (hd : ∀ k, k < n → md k = dy k) (hf : ∀ k, k < n → mw k = nI (w k)) (hs : ∀ k, k < n → mt k = nI (t k)) {Q : Int32 → Prop} (hQ : Q (CGA w t n s dy p1 p2)) : wp_X9_change (nI n) (nI s) md mw mt p1 p2 Q := by
  have hn := hb.1
  have hP := PP_lt (w := w) (t := t) (s := s) hn
  unfold wp_X9_change wp_X9_change_b23 wp_X9_change_b82
  refine m_in (fun q1 q2 => ⟨fun q => absurd q (by decide), fun _ => ?_⟩) (fun q => ⟨fun _ => ?_, fun q => absurd rfl q⟩)
  · obtain ⟨k, hk, rfl⟩ := below (by omega) q1 (fun c => q2 ((lt_pred (by omega)).mpr c))
    rw [CGA_at hn hk] at hQ
    rw [nI_cl (by omega), hd k hk, hf k hk, hs k hk]
    refine m_in (fun a1 a2 => ⟨fun _ => ?_, fun q => absurd q (by decide)⟩) (fun q => ⟨fun q => absurd rfl q, fun _ => ?_⟩)
    · obtain ⟨j, hj, rfl⟩ := between (n := 3) rfl a1 a2
      rw [sel_at (by omega) (by decide)] at hQ
      refine bNE j 0 rfl rfl (by omega) (by decide) (fun c0 => ?_) (fun c => ⟨vin (by omega) (by decide), by subst c; exact hQ⟩)
      refine bNE j 1 rfl rfl (by omega) (by decide) (fun c1 => ?_) (fun c => ⟨vin (by omega) (by decide), by subst c; exact hQ⟩)
      refine bNE j 2 rfl rfl (by omega) (by decide) (fun c2 => ?_) (fun c => ⟨vin (by omega) (by decide), by subst c; exact hQ⟩)
      have : j = 3 := by omega
      subst this
      have hQ' : Q (if (PP w t n 0 s).2.testBit k then 1 else 0) := hQ
      refine m_held hb hf hs ?_
      refine m_has (by omega) (by omega) (fun c => ?_) (fun c => ?_)
      · rw [c] at hQ'; exact ⟨fun q => absurd q (by decide), fun _ => hQ'⟩
      · rw [c] at hQ'; exact ⟨fun _ => hQ', fun q => absurd rfl q⟩
    · rw [sel_out (by decide) (by
        rcases q with q | q
        · exact Or.inl (by rw [Int32.lt_iff_toInt_lt] at q; exact q)
        · exact Or.inr (by rw [Int32.lt_iff_toInt_lt] at q; exact q))] at hQ
      exact hQ
  · unfold CGA at hQ
    rw [if_pos (by
      rcases q with q | q
      · exact Or.inl q
      · exact Or.inr ((lt_pred (by omega)).mp q))] at hQ
    exact hQ
end
