/-! ===== the changes that are held, in the reference ===== -/
theorem pb_64 : ∀ T, T < 64 → pb T ≤ 6 := by decide +kernel
def SM (v : Nat → Option (Nat × Nat)) (N : Nat) (v1 v2 : Int32) : Prop := match fbs v N with
  | none => v1 = 0 ∧ v2 = -1
  | some q => v1 = nI q.2 ∧ v2 = nI q.1 ∧ q.1 ≤ 6 ∧ q.2 < 64
theorem SM_no {v : Nat → Option (Nat × Nat)} {N : Nat} {v1 v2 : Int32} (h : SM v N v1 v2) (hv : v N = none) : SM v (N + 1) v1 v2 := by
  unfold SM at h ⊢
  show match fb (fbs v N) (v N) with
    | none => v1 = 0 ∧ v2 = -1
    | some q => v1 = nI q.2 ∧ v2 = nI q.1 ∧ q.1 ≤ 6 ∧ q.2 < 64
  rw [hv]
  cases e : fbs v N with
  | none => rw [e] at h; exact h
  | some q => rw [e] at h; exact h
theorem SM_yes {v : Nat → Option (Nat × Nat)} {N g T : Nat} {v1 v2 : Int32} (h : SM v N v1 v2) (hv : v N = some (g, T)) (hg : g ≤ 6) (hT : T < 64) {A B : Prop} (hA : SM v (N + 1) v1 v2 → A) (hB : SM v (N + 1) (nI T) (nI g) → B) : (nI g ≤ v2 → A) ∧ (¬ nI g ≤ v2 → B) := by
  have hs : fbs v (N + 1) = fb (fbs v N) (some (g, T)) := by rw [← hv]; rfl
  cases e : fbs v N with
  | none =>
    have h' : v1 = 0 ∧ v2 = -1 := by unfold SM at h; rw [e] at h; exact h
    refine ⟨fun q => ?_, fun _ => hB ?_⟩
    · rw [h'.2] at q
      exact absurd q (nI_nle1 (by omega))
    · unfold SM
      rw [hs, e]
      exact ⟨rfl, rfl, hg, hT⟩
  | some q0 =>
    have h' : v1 = nI q0.2 ∧ v2 = nI q0.1 ∧ q0.1 ≤ 6 ∧ q0.2 < 64 := by unfold SM at h; rw [e] at h; exact h
    obtain ⟨e1, e2, e3, e4⟩ := h'
    refine bLE g q0.1 rfl e2 (by omega) (by omega) (fun q => hA ?_) (fun q => hB ?_)
    · unfold SM
      rw [hs, e]
      show match (if q0.1 < g then some (g, T) else some q0) with
        | none => v1 = 0 ∧ v2 = -1
        | some q => v1 = nI q.2 ∧ v2 = nI q.1 ∧ q.1 ≤ 6 ∧ q.2 < 64
      rw [if_neg (by omega)]
      exact ⟨e1, e2, e3, e4⟩
    · unfold SM
      rw [hs, e]
      show match (if q0.1 < g then some (g, T) else some q0) with
        | none => nI T = 0 ∧ nI g = -1
        | some q => nI T = nI q.2 ∧ nI g = nI q.1 ∧ q.1 ≤ 6 ∧ q.2 < 64
      rw [if_pos (by omega)]
      exact ⟨rfl, rfl, hg, hT⟩
section
variable {w t : Nat → Nat} {n s : Nat} {mw mt : Nat → Int32}
theorem pv_t {r k p c : Nat} (h : c.testBit r = true) : pv w t (r + 1) k p (c % 2 ^ (r + 1)) = pv w t r (k + 1) p (c % 2 ^ r) := by
  have e : c % 2 ^ (r + 1) = 2 ^ r + c % 2 ^ r := by
    rw [Nat.testBit_eq_decide_div_mod_eq, decide_eq_true_eq] at h
    rw [Nat.mod_pow_succ, h]; omega
  show (if c % 2 ^ (r + 1) < 2 ^ r then _ else pv w t r (k + 1) p (c % 2 ^ (r + 1) - 2 ^ r)) = _
  rw [if_neg (by omega), e, Nat.add_sub_cancel_left]
theorem pv_f {r k p c : Nat} (h : c.testBit r = false) : pv w t (r + 1) k p (c % 2 ^ (r + 1)) = if w k = p then (pv w t r (k + 1) (t k) (c % 2 ^ r)).map (fun q => (q.1 + 1, q.2 ||| 2 ^ k)) else none := by
  have e : c % 2 ^ (r + 1) = c % 2 ^ r := by
    rw [Nat.testBit_eq_decide_div_mod_eq, decide_eq_false_iff_not] at h
    rw [Nat.mod_pow_succ, show c / 2 ^ r % 2 = 0 by omega]; omega
  show (if c % 2 ^ (r + 1) < 2 ^ r then _ else _) = _
  rw [e, if_pos (Nat.mod_lt _ (Nat.two_pow_pos r))]
theorem m_heldIn (hb : PB w t n s) (hf : ∀ k, k < n → mw k = nI (w k)) (hs : ∀ k, k < n → mt k = nI (t k)) {Q : Int32 → Prop} {K : Int32 → Int32 → Int32 → Prop} {c : Nat} (hc : c < 64) {v1 v2 : Int32} (hSM : SM (pv w t n 0 s) c v1 v2) (hK : ∀ v1 v2, SM (pv w t n 0 s) (c + 1) v1 v2 → K v1 v2 (nI (c + 1))) :
    ∀ (d k p T : Nat) (b : Int32), k + d = n → p < 8 → T < 2 ^ k → ((b = 1 ∧ pv w t n 0 s c = (pv w t (n - k) k p (c % 2 ^ (n - k))).map (fun q => (q.1 + pb T, q.2 ||| T))) ∨ (b = 0 ∧ pv w t n 0 s c = none)) → wp_X9_held_h31 (nI n) (nI s) mw mt Q K (d + 1) v1 v2 (nI c) (nI p) (nI T) b (nI k) := by
  obtain ⟨hn, hs8, hwt⟩ := hb
  intro d
  induction d with
  | zero =>
    intro k p T b hk hp hT hi
    have : k = n := by omega
    subst this
    have hT64 : T < 64 := Nat.lt_of_lt_of_le hT (Nat.le_trans (Nat.pow_le_pow_right (by decide) hn) (by decide))
    have hpb := pb_64 T hT64
    rw [wp_X9_held_h31]
    refine bLE k k rfl rfl (by omega) (by omega) (fun _ => ?_) (fun q => by omega)
    unfold wp_X9_held_b122 wp_X9_held_b123 wp_X9_held_b136 wp_X9_held_b151
    have hkeep : SM (pv w t k 0 s) (c + 1) v1 v2 → ∀ x : Int32, x = nI c + 1 → K v1 v2 x := by
      intro h x hx
      rw [nI_1] at hx
      subst hx
      exact hK v1 v2 h
    rcases hi with ⟨rfl, hi⟩ | ⟨rfl, hi⟩
    · refine ⟨fun q => absurd q (by decide), fun _ => ?_⟩
      have hv : pv w t k 0 s c = some (pb T, T) := by
        rw [hi, Nat.sub_self]
        show some (0 + pb T, 0 ||| T) = _
        rw [Nat.zero_add, Nat.zero_or]
      refine m_bits (by omega) ?_
      refine SM_yes hSM hv hpb hT64 (fun h => ?_) (fun h => ?_)
      · exact ⟨fun _ => ⟨fun _ => hkeep h, fun q => absurd rfl q⟩, fun q => absurd rfl q⟩
      · refine ⟨fun q => absurd q (by decide), fun _ => ⟨fun q => absurd q (by decide), fun _ => ?_⟩⟩
        refine m_bits (by omega) ?_
        intro x hx
        rw [nI_1] at hx
        subst hx
        exact hK _ _ h
    · refine ⟨fun _ => ?_, fun q => absurd rfl q⟩
      have h := SM_no hSM hi
      exact ⟨fun _ => ⟨fun _ => hkeep h, fun q => absurd rfl q⟩, fun q => absurd rfl q⟩
  | succ d ih =>
    intro k p T b hk hp hT hi
    have hkn : k < n := by omega
    obtain ⟨hw, ht⟩ := hwt k hkn
    have hp2 : 2 ^ (k + 1) = 2 ^ k + 2 ^ k := by rw [Nat.pow_succ]; omega
    have hk64 : 2 ^ k ≤ 64 := Nat.le_trans (Nat.pow_le_pow_right (by decide) (show k ≤ 6 by omega)) (by decide)
    have hr : n - k = (n - (k + 1)) + 1 := by omega
    have hTor : T ||| 2 ^ k < 2 ^ (k + 1) := Nat.or_lt_two_pow (by omega) (by omega)
    rw [wp_X9_held_h31]
    refine bLE n k rfl rfl (by omega) (by omega) (fun q => by omega) (fun _ => ?_)
    rw [nI_subL (by omega), nI_subN (by omega), show n - 1 - k = n - (k + 1) by omega]
    refine m_has (by omega) (by omega) (fun ct => ?_) (fun ct => ?_)
    · refine ⟨fun _ => ?_, fun q => absurd q (by decide)⟩
      unfold wp_X9_held_b98
      intro z hz
      rw [nI_1] at hz
      subst hz
      refine ih (k + 1) p T b (by omega) hp (by omega) ?_
      rcases hi with ⟨rfl, hi⟩ | ⟨rfl, hi⟩
      · refine Or.inl ⟨rfl, ?_⟩
        rw [hi, hr, pv_t ct]
      · exact Or.inr ⟨rfl, hi⟩
    · refine ⟨fun q => absurd rfl q, fun _ => ?_⟩
      have hgo : ∀ (b : Int32), ((b = 1 ∧ pv w t n 0 s c = (pv w t (n - (k + 1)) (k + 1) (t k) (c % 2 ^ (n - (k + 1)))).map (fun q => (q.1 + pb (T ||| 2 ^ k), q.2 ||| (T ||| 2 ^ k)))) ∨ (b = 0 ∧ pv w t n 0 s c = none)) → wp_X9_held_b78 (nI n) (nI s) mw mt Q K (fun y0 y1 y2 y3 y4 y5 y6 => wp_X9_held_h31 (nI n) (nI s) mw mt Q K (d + 1) y0 y1 y2 y3 y4 y5 y6) b v1 v2 (nI c) (nI T) (nI k) := by
        intro b hb
        unfold wp_X9_held_b78
        refine ⟨vin (by omega) (by decide), ?_⟩
        intro y1 hy1 y2 hy2
        unfold wp_X9_held_b98
        intro z hz
        rw [nI_cl (by omega), hs k hkn] at hy1
        rw [shl1 k (by omega), nI_or (by omega) (by omega)] at hy2
        rw [nI_1] at hz
        subst hy1; subst hy2; subst hz
        exact ih (k + 1) (t k) (T ||| 2 ^ k) b (by omega) ht hTor hb
      rcases hi with ⟨rfl, hi⟩ | ⟨rfl, hi⟩
      · refine ⟨fun q => absurd q (by decide), fun _ => ⟨vin (by omega) (by decide), ?_⟩⟩
        rw [nI_cl (by omega), hf k hkn]
        rw [hr, pv_f ct] at hi
        refine bNE (w k) p rfl rfl (by omega) (by omega) (fun q => ?_) (fun q => ?_)
        · unfold wp_X9_held_b77
          refine hgo 0 (Or.inr ⟨rfl, ?_⟩)
          rw [hi, if_neg q]; rfl
        · refine hgo 1 (Or.inl ⟨rfl, ?_⟩)
          rw [hi, if_pos q, Option.map_map]
          have hTf : T.testBit k = false := Nat.testBit_lt_two_pow hT
          have e : pb (T ||| 2 ^ k) = pb T + 1 := pb_set (by omega) (by omega) hTf
          rw [e]
          congr 1
          funext q
          show (q.1 + 1 + pb T, (q.2 ||| 2 ^ k) ||| T) = (q.1 + (pb T + 1), q.2 ||| (T ||| 2 ^ k))
          rw [Nat.or_assoc, Nat.or_comm (2 ^ k) T, show q.1 + 1 + pb T = q.1 + (pb T + 1) by omega]
      · refine ⟨fun _ => ?_, fun q => absurd rfl q⟩
        unfold wp_X9_held_b77
        exact hgo 0 (Or.inr ⟨rfl, hi⟩)
theorem m_held (hb : PB w t n s) (hf : ∀ k, k < n → mw k = nI (w k)) (hs : ∀ k, k < n → mt k = nI (t k)) {Q : Int32 → Prop} (hQ : Q (nI (PP w t n 0 s).2)) : wp_X9_held (nI n) (nI s) mw mt Q := by
  have hn := hb.1
  have hp2 : 2 ^ n ≤ 64 := Nat.le_trans (Nat.pow_le_pow_right (by decide) hn) (by decide)
  have hloop : ∀ (d c : Nat) (v1 v2 : Int32), c + d = 2 ^ n → SM (pv w t n 0 s) c v1 v2 → wp_X9_held_h6 (nI n) (nI s) mw mt Q (d + 1) v1 v2 (nI c) := by
    intro d
    induction d with
    | zero =>
      intro c v1 v2 hc hSM
      have : c = 2 ^ n := by omega
      subst this
      rw [wp_X9_held_h6]
      rw [shl1 n (by omega)]
      refine bLE (2 ^ n) (2 ^ n) rfl rfl (by omega) (by omega) (fun _ => ?_) (fun q => by omega)
      unfold SM at hSM
      rw [fbs_pv] at hSM
      rw [hSM.1]
      exact hQ
    | succ d ih =>
      intro c v1 v2 hc hSM
      rw [wp_X9_held_h6]
      rw [shl1 n (by omega)]
      refine bLE (2 ^ n) c rfl rfl (by omega) (by omega) (fun q => by omega) (fun _ => ?_)
      refine ⟨n + 1, m_heldIn hb hf hs (by omega) hSM (fun v1 v2 h => ih (c + 1) v1 v2 (by omega) h) n 0 s 0 1 (by omega) hb.2.1 (by decide) (Or.inl ⟨rfl, ?_⟩)⟩
      rw [Nat.sub_zero, Nat.mod_eq_of_lt (by omega)]
      have e : (fun q : Nat × Nat => (q.1 + pb 0, q.2 ||| 0)) = fun q => q := by
        funext q
        show (q.1 + pb 0, q.2 ||| 0) = q
        rw [Nat.or_zero, show pb 0 = 0 by decide]; rfl
      rw [e, Option.map_id']
  exact ⟨2 ^ n + 1, hloop (2 ^ n) 0 0 (-1) (by omega) ⟨rfl, rfl⟩⟩
/-- what both answer to plate -/
def plt (w t : Nat → Nat) (n s : Nat) (dy : Nat → Int32) (day : Int32) : Nat → Nat
  | 0 => s
  | k + 1 => if (PP w t n 0 s).2.testBit k = true ∧ ¬ day < dy k then t k else plt w t n s dy day k
def PLA (w t : Nat → Nat) (n s : Nat) (dy : Nat → Int32) (day : Int32) : Int32 := if day < 0 ∨ 999 < day then -1 else nI (plt w t n s dy day n)
def CHA (w t : Nat → Nat) (n s : Nat) (dy : Nat → Int32) (p1 p2 : Int32) : Int32 :=
  if p1 < 0 ∨ nI n ≤ p1 then -1 else if p2 = 0 then dy p1.toNatClampNeg else if p2 = 1 then nI (w p1.toNatClampNeg) else if p2 = 2 then nI (t p1.toNatClampNeg) else if p2 = 3 then (if (PP w t n 0 s).2.testBit p1.toNatClampNeg then 1 else 0) else -1
theorem x_isDay {p : Int32} {Q : Int32 → Prop} (h1 : ¬ p < 0 → ¬ 999 < p → Q 1) (h0 : (p < 0 ∨ 999 < p) → Q 0) : wp_X8_isDay p Q := by
  unfold wp_X8_isDay
  exact x_within (fun a b => ⟨Or.inr rfl, h1 a b⟩) (fun a => ⟨Or.inl rfl, h0 a⟩)
theorem x_plate {ph cd cs : Nat → Int32} {hia : Int32} {dy : Nat → Int32} {day : Int32} (hn : n ≤ 6) (hd : ∀ k, k < n → cd k = dy k) (hs : ∀ k, k < n → cs k = nI (t k)) (hF : FH w t n s ph hia) {Q : Int32 → Prop} (hQ : Q (PLA w t n s dy day)) : wp_X8_plate ph (nI s) cd cs (nI n) day Q := by
  unfold wp_X8_plate
  unfold PLA at hQ
  refine x_isDay (fun a1 a2 => ⟨fun _ => ?_, fun q => absurd q (by decide)⟩) (fun a => ⟨fun q => absurd rfl q, fun _ => by rw [if_pos a] at hQ; exact hQ⟩)
  rw [if_neg (fun c => by rcases c with c | c; exact a1 c; exact a2 c)] at hQ
  have hloop : ∀ (d k : Nat), k + d = n → wp_X4_plateOn_h7 ph (nI s) cd cs (nI n) Q (d + 1) day (nI (plt w t n s dy day k)) (nI k) := by
    intro d
    induction d with
    | zero =>
      intro k hk
      have : k = n := by omega
      subst this
      rw [wp_X4_plateOn_h7]
      exact bLE k k rfl rfl (by omega) (by omega) (fun _ => hQ) (fun q => by omega)
    | succ d ih =>
      intro k hk
      rw [wp_X4_plateOn_h7]
      refine bLE n k rfl rfl (by omega) (by omega) (fun q => by omega) (fun _ => ?_)
      rw [nI_cl (by omega), hF.1 k (by omega), hd k (by omega), hs k (by omega)]
      refine ⟨vin (by omega) (by decide), ?_⟩
      have hnext : ∀ v : Int32, v = nI (plt w t n s dy day (k + 1)) → wp_X4_plateOn_b50 ph (nI s) cd cs (nI n) Q (fun y0 y1 y2 => wp_X4_plateOn_h7 ph (nI s) cd cs (nI n) Q (d + 1) y0 y1 y2) day v (nI k) := by
        intro v hv
        subst hv
        unfold wp_X4_plateOn_b50
        intro z hz
        rw [nI_1] at hz
        subst hz
        exact ih (k + 1) (by omega)
      have hp : plt w t n s dy day (k + 1) = if (PP w t n 0 s).2.testBit k = true ∧ ¬ day < dy k then t k else plt w t n s dy day k := rfl
      cases c : (PP w t n 0 s).2.testBit k with
      | false =>
        refine ⟨fun _ => hnext _ ?_, fun q => absurd rfl q⟩
        rw [hp, if_neg (fun q => by rw [c] at q; exact absurd q.1 (by decide))]
      | true =>
        refine ⟨fun q => absurd q (by decide), fun _ => ⟨vin (by omega) (by decide), fun q => hnext _ ?_, fun q => ⟨vin (by omega) (by decide), ?_⟩⟩⟩
        · rw [hp, if_neg (fun e => e.2 q)]
        · intro y hy
          subst hy
          refine hnext _ ?_
          rw [hp, if_pos ⟨c, q⟩]
  exact ⟨n + 1, hloop n 0 (by omega)⟩
theorem m_plate {md : Nat → Int32} {dy : Nat → Int32} {day : Int32} (hb : PB w t n s) (hd : ∀ k, k < n → md k = dy k) (hf : ∀ k, k < n → mw k = nI (w k)) (hs : ∀ k, k < n → mt k = nI (t k)) {Q : Int32 → Prop} (hQ : Q (PLA w t n s dy day)) : wp_X9_plate (nI n) (nI s) md mw mt day Q := by
  have hn := hb.1
  have hP := PP_lt (w := w) (t := t) (s := s) hn
  unfold wp_X9_plate
  unfold PLA at hQ
  refine m_in (fun a1 a2 => ⟨fun _ => ?_, fun q => absurd q (by decide)⟩) (fun a => ⟨fun q => absurd rfl q, fun _ => by rw [if_pos a] at hQ; exact hQ⟩)
  rw [if_neg (fun c => by rcases c with c | c; exact a1 c; exact a2 c)] at hQ
  refine m_held hb hf hs ?_
  have hloop : ∀ (d k : Nat), k + d = n → wp_X9_plate_h26 (nI n) (nI s) md mw mt Q (d + 1) day (nI (plt w t n s dy day k)) (nI (PP w t n 0 s).2) (nI k) := by
    intro d
    induction d with
    | zero =>
      intro k hk
      have : k = n := by omega
      subst this
      rw [wp_X9_plate_h26]
      exact bLE k k rfl rfl (by omega) (by omega) (fun _ => hQ) (fun q => by omega)
    | succ d ih =>
      intro k hk
      rw [wp_X9_plate_h26]
      refine bLE n k rfl rfl (by omega) (by omega) (fun q => by omega) (fun _ => ?_)
      rw [nI_cl (by omega), hd k (by omega), hs k (by omega)]
      have hnext : ∀ v : Int32, v = nI (plt w t n s dy day (k + 1)) → wp_X9_plate_b66 (nI n) (nI s) md mw mt Q (fun y0 y1 y2 y3 => wp_X9_plate_h26 (nI n) (nI s) md mw mt Q (d + 1) y0 y1 y2 y3) v day (nI (PP w t n 0 s).2) (nI k) := by
        intro v hv
        subst hv
        unfold wp_X9_plate_b66
        intro z hz
        rw [nI_1] at hz
        subst hz
        exact ih (k + 1) (by omega)
      have hp : plt w t n s dy day (k + 1) = if (PP w t n 0 s).2.testBit k = true ∧ ¬ day < dy k then t k else plt w t n s dy day k := rfl
      unfold wp_X9_plate_b65
      refine m_has (by omega) (by omega) (fun c => ?_) (fun c => ?_)
      · refine ⟨fun q => absurd q (by decide), fun _ => ⟨vin (by omega) (by decide), fun q => hnext _ ?_, fun q => ⟨vin (by omega) (by decide), hnext _ ?_⟩⟩⟩
        · rw [hp, if_neg (fun e => e.2 q)]
        · rw [hp, if_pos ⟨c, q⟩]
      · refine ⟨fun _ => hnext _ ?_, fun q => absurd rfl q⟩
        rw [hp, if_neg (fun q => by rw [c] at q; exact absurd q.1 (by decide))]
  exact ⟨n + 1, hloop n 0 (by omega)⟩
end
