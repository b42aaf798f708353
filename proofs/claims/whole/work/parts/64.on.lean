/-! ===== ON a day ===== -/
def onL (h : HS) (n : Nat) (day : Int32) : Nat → Option Nat
  | 0 => none
  | k + 1 => if pd h n k ≠ 2 ∧ ¬ day < nI (hDay h k) then some k else onL h n day k
def onF (h : HS) (n : Nat) (day : Int32) : Nat → Option Nat
  | 0 => none
  | k + 1 => match onF h n day k with
    | some j => some j
    | none => if pd h n k ≠ 2 ∧ ¬ nI (hDay h k) ≤ day then some k else none
theorem onL_y {h : HS} {n k : Nat} {day : Int32} (h1 : pd h n k ≠ 2) (h2 : ¬ day < nI (hDay h k)) : onL h n day (k + 1) = some k := if_pos ⟨h1, h2⟩
theorem onL_n1 {h : HS} {n k : Nat} {day : Int32} (h1 : pd h n k = 2) : onL h n day (k + 1) = onL h n day k := if_neg (fun q => q.1 h1)
theorem onL_n2 {h : HS} {n k : Nat} {day : Int32} (h2 : day < nI (hDay h k)) : onL h n day (k + 1) = onL h n day k := if_neg (fun q => q.2 h2)
theorem onF_s {h : HS} {n k j : Nat} {day : Int32} (e : onF h n day k = some j) : onF h n day (k + 1) = some j := by
  show (match onF h n day k with | some j => some j | none => _) = _
  rw [e]
theorem onF_o {h : HS} {n k : Nat} {day : Int32} (e : onF h n day k = none) : onF h n day (k + 1) = if pd h n k ≠ 2 ∧ ¬ nI (hDay h k) ≤ day then some k else none := by
  show (match onF h n day k with | some j => some j | none => _) = _
  rw [e]
theorem onF_n1 {h : HS} {n k : Nat} {day : Int32} (h1 : pd h n k = 2) : onF h n day (k + 1) = onF h n day k := by
  cases e : onF h n day k with
  | none => rw [onF_o e, if_neg (fun q => q.1 h1)]
  | some j => exact onF_s e
theorem onF_n2 {h : HS} {n k : Nat} {day : Int32} (h2 : nI (hDay h k) ≤ day) : onF h n day (k + 1) = onF h n day k := by
  cases e : onF h n day k with
  | none => rw [onF_o e, if_neg (fun q => q.2 h2)]
  | some j => exact onF_s e
theorem onF_y {h : HS} {n k : Nat} {day : Int32} (e : onF h n day k = none) (h1 : pd h n k ≠ 2) (h2 : ¬ nI (hDay h k) ≤ day) : onF h n day (k + 1) = some k := by
  rw [onF_o e, if_pos ⟨h1, h2⟩]
theorem onF_keep {h : HS} {n k j : Nat} {day : Int32} (e : onF h n day k = some j) : ∀ d, onF h n day (k + d) = some j
  | 0 => e
  | d + 1 => onF_s (onF_keep e d)
theorem onL_lt {h : HS} {n : Nat} {day : Int32} : ∀ (k j : Nat), onL h n day k = some j → j < k ∧ pd h n j ≠ 2
  | 0, j, e => by cases e
  | k + 1, j, e => by
    unfold onL at e
    split at e
    · next q => have := Option.some.inj e; subst this; exact ⟨by omega, q.1⟩
    · obtain ⟨a, b⟩ := onL_lt k j e; exact ⟨by omega, b⟩
theorem onF_lt {h : HS} {n : Nat} {day : Int32} : ∀ (k j : Nat), onF h n day k = some j → j < k ∧ pd h n j ≠ 2
  | 0, j, e => by cases e
  | k + 1, j, e => by
    cases c : onF h n day k with
    | some i =>
      rw [onF_s c] at e
      have := Option.some.inj e; subst this
      obtain ⟨a, b⟩ := onF_lt k i c; exact ⟨by omega, b⟩
    | none =>
      rw [onF_o c] at e
      split at e
      · next q => have := Option.some.inj e; subst this; exact ⟨by omega, q.1⟩
      · cases e
def oI (x : Option Nat) : Int32 := match x with
  | none => -9
  | some k => nI k
def stn (fs : Nat → Int32) (x : Option Nat) : Int32 := match x with
  | none => 0
  | some k => fs k
def onG (h : HS) (n : Nat) (day : Int32) (a : Nat) : Int32 := nI (hRate h) * (day - nI (hDay h a))
def onC (h : HS) (n : Nat) (day : Int32) (b : Nat) : Int32 := nI (hRate h) * (nI (hDay h b) - day)
def ONF (h : HS) (n : Nat) (day what : Int32) (a b : Nat) : Int32 :=
  if what = 0 then (if aFar h n a < aFar h n b - onC h n day b then aFar h n b - onC h n day b else aFar h n a)
  else (if aFar h n a + onG h n day a < aFar h n b then aFar h n a + onG h n day a else aFar h n b)
def ONX (h : HS) (n : Nat) (day what : Int32) (x y : Option Nat) : Int32 := match x, y with
  | some a, some b => ONF h n day what a b
  | _, _ => -9
def ONA (h : HS) (n : Nat) (day what : Int32) : Int32 := if (day < 0 ∨ 999 < day) ∨ (what < 0 ∨ 1 < what) then -1 else ONX h n day what (onL h n day n) (onF h n day n)
section
variable {h : HS} {n : Nat} {rate : Int32} {sd sf sg U r : Nat → Int32} {w : Nat → Int64} {e an fs rs : Nat → Int32} {kp s1 s2 kn : Int32} {now : Nat → Int32}
theorem st_at (hb : HB h n) (hS : SO h n sd sf sg U r w e an fs rs kp s1 s2) {k : Nat} (hk : k < n) (hp : pd h n k ≠ 2) : ∃ x, fs k = nI x ∧ 0 < x ∧ x < 88 ∧ sd x = nI (hDay h k) ∧ sf x = aFar h n k := by
  have hn := hb.1
  obtain ⟨hSR, -, -, -, -, hF, -, -⟩ := hS
  obtain ⟨f1, -⟩ := hF.1 k hk
  rw [if_neg hp] at f1
  obtain ⟨s, t, h1, h2, h3, h4⟩ := first_at hk hp
  obtain ⟨r1, r2, -⟩ := hSR.2 k s t hk h1 h2
  refine ⟨ix k s t, by rw [f1, h4], ?_, ?_, r1, ?_⟩
  · unfold ix; omega
  · unfold ix; omega
  · unfold aFar
    rw [if_neg hp, h4, sgm_ix h h1 h2]
    exact r2
theorem st_no (hS : SO h n sd sf sg U r w e an fs rs kp s1 s2) {k : Nat} (hk : k < n) (hp : pd h n k = 2) : fs k = 0 := by
  obtain ⟨-, -, -, -, -, hF, -, -⟩ := hS
  obtain ⟨f1, -⟩ := hF.1 k hk
  rw [if_pos hp] at f1
  exact f1
theorem x_lastUntil (hb : HB h n) (hS : SO h n sd sf sg U r w e an fs rs kp s1 s2) {day : Int32} {Q : Int32 → Prop} (hQ : Q (stn fs (onL h n day n))) : wp_X5_lastUntil (nI n) sd fs day Q := by
  have hn := hb.1
  have hloop : ∀ (d k : Nat), k + d = n → wp_X5_lastUntil_h4 (nI n) sd fs Q (d + 1) day (stn fs (onL h n day k)) (nI k) := by
    intro d
    induction d with
    | zero =>
      intro k hk
      rw [wp_X5_lastUntil_h4]
      unfold wp_X6_size
      refine bLE n k rfl rfl (by omega) (by omega) (fun _ => ?_) (fun q => by omega)
      rw [show k = n by omega]; exact hQ
    | succ d ih =>
      intro k hk
      rw [wp_X5_lastUntil_h4]
      unfold wp_X6_size wp_X5_lastUntil_b49
      dsimp only
      refine bLE n k rfl rfl (by omega) (by omega) (fun q => by omega) (fun _ => ?_)
      rw [nI_cl (by omega)]
      have hnext := ih (k + 1) (by omega)
      have hz : ∀ x : Int32, x = nI k + 1 → x = nI (k + 1) := fun x hx => by rw [hx]; exact nI_1 k
      refine ⟨vin (by omega) (by decide), ?_⟩
      by_cases c : pd h n k = 2
      · rw [onL_n1 c] at hnext
        exact ⟨fun _ z hz' => by rw [hz z hz']; exact hnext, fun q => absurd (st_no hS (by omega) c) q⟩
      · obtain ⟨x, e1, e2, e3, e4, e5⟩ := st_at hb hS (by omega) c
        refine ⟨fun q => absurd (e1.symm.trans q) (nI_ne0 e2 (by omega)), fun _ => ?_⟩
        rw [e1, nI_cl (by omega), e4]
        refine ⟨vin (by omega) (by decide), vin (by omega) (by decide), fun q => ?_, fun q => ⟨vin (by omega) (by decide), ?_⟩⟩
        · rw [onL_n2 q] at hnext
          intro z hz'; rw [hz z hz']; exact hnext
        · rw [onL_y c q, show stn fs (some k) = nI x from e1] at hnext
          intro y hy z hz'; rw [hy, hz z hz']; exact hnext
  exact ⟨n + 1, hloop n 0 (by omega)⟩
theorem x_firstAfter (hb : HB h n) (hS : SO h n sd sf sg U r w e an fs rs kp s1 s2) {day : Int32} {Q : Int32 → Prop} (hQ : Q (stn fs (onF h n day n))) : wp_X5_firstAfter (nI n) sd fs day Q := by
  have hn := hb.1
  have hloop : ∀ (d k : Nat), k + d = n → onF h n day k = none → wp_X5_firstAfter_h2 (nI n) sd fs Q (d + 1) day (nI k) := by
    intro d
    induction d with
    | zero =>
      intro k hk hno
      rw [wp_X5_firstAfter_h2]
      unfold wp_X6_size
      refine bLE n k rfl rfl (by omega) (by omega) (fun _ => ?_) (fun q => by omega)
      rw [show k = n by omega] at hno
      rw [hno] at hQ; exact hQ
    | succ d ih =>
      intro k hk hno
      rw [wp_X5_firstAfter_h2]
      unfold wp_X6_size wp_X5_firstAfter_b47
      dsimp only
      refine bLE n k rfl rfl (by omega) (by omega) (fun q => by omega) (fun _ => ?_)
      rw [nI_cl (by omega)]
      have hz : ∀ x : Int32, x = nI k + 1 → x = nI (k + 1) := fun x hx => by rw [hx]; exact nI_1 k
      refine ⟨vin (by omega) (by decide), ?_⟩
      by_cases c : pd h n k = 2
      · exact ⟨fun _ z hz' => by rw [hz z hz']; exact ih (k + 1) (by omega) (by rw [onF_n1 c]; exact hno), fun q => absurd (st_no hS (by omega) c) q⟩
      · obtain ⟨x, e1, e2, e3, e4, e5⟩ := st_at hb hS (by omega) c
        refine ⟨fun q => absurd (e1.symm.trans q) (nI_ne0 e2 (by omega)), fun _ => ?_⟩
        rw [e1, nI_cl (by omega), e4]
        refine ⟨vin (by omega) (by decide), vin (by omega) (by decide), fun q => ?_, fun q => ⟨vin (by omega) (by decide), ?_⟩⟩
        · intro z hz'; rw [hz z hz']; exact ih (k + 1) (by omega) (by rw [onF_n2 q]; exact hno)
        · have hy := onF_keep (onF_y hno c q) d
          rw [show k + 1 + d = n by omega] at hy
          rw [hy, show stn fs (some k) = nI x from e1] at hQ
          exact hQ
  exact ⟨n + 1, hloop n 0 (by omega) rfl⟩
theorem x_on (hb : HB h n) (hr : rate = nI (hRate h)) (hS : SO h n sd sf sg U r w e an fs rs kp s1 s2) {p1 p2 : Int32} {Q : Int32 → Prop} (hQ : Q (ONA h n p1 p2)) : wp_X8_on rate (nI n) sd sf fs p1 p2 Q := by
  have hn := hb.1
  subst hr
  unfold wp_X8_on wp_X8_on_b16 wp_X8_on_b33
  unfold ONA at hQ
  refine x_isDay (fun a1 a2 => ⟨fun q => absurd q (by decide), fun _ => ?_⟩) (fun q => ⟨fun _ => ?_, fun q => absurd rfl q⟩)
  · refine x_within (fun b1 b2 => ⟨fun _ => ?_, fun q => absurd q (by decide)⟩) (fun q => ⟨fun q => absurd rfl q, fun _ => ?_⟩)
    · rw [if_neg (by
        rintro ((c | c) | (c | c))
        · exact a1 c
        · exact a2 c
        · exact b1 c
        · exact b2 c)] at hQ
      have key : ∀ k0 : Int32, (p2 = 0 → k0 = 0) → (¬ p2 = 0 → ¬ k0 = 0) → wp_X5_farOn (nI (hRate h)) (nI n) sd sf fs p1 k0 Q := by
        intro k0 hk1 hk2
        unfold wp_X5_farOn wp_X5_farOn_b22 wp_X5_farOn_b121 wp_X6_mostGone
        refine x_lastUntil hb hS (x_firstAfter hb hS ?_)
        cases ea : onL h n p1 n with
        | none =>
          rw [ea] at hQ
          exact ⟨fun _ => hQ, fun q => absurd rfl q⟩
        | some a =>
          obtain ⟨ha, hpa⟩ := onL_lt n a ea
          obtain ⟨x, x1, x2, x3, x4, x5⟩ := st_at hb hS ha hpa
          rw [show stn fs (some a) = nI x from x1]
          refine ⟨fun q => absurd q (nI_ne0 x2 (by omega)), fun _ => ?_⟩
          cases eb : onF h n p1 n with
          | none =>
            rw [ea, eb] at hQ
            exact ⟨fun q => absurd rfl q, fun _ => hQ⟩
          | some b =>
            obtain ⟨hb', hpb⟩ := onF_lt n b eb
            obtain ⟨y, y1, y2, y3, y4, y5⟩ := st_at hb hS hb' hpb
            rw [show stn fs (some b) = nI y from y1, nI_cl (by omega), nI_cl (by omega), x4, x5, y4, y5]
            rw [ea, eb] at hQ
            have hQ' : Q (ONF h n p1 p2 a b) := hQ
            unfold ONF onC onG at hQ'
            refine ⟨fun _ => ⟨vin (by omega) (by decide), vin (by omega) (by decide), fun q => ⟨vin (by omega) (by decide), vin (by omega) (by decide), ?_⟩, fun q => ⟨vin (by omega) (by decide), vin (by omega) (by decide), ?_⟩⟩, fun q => absurd q (nI_ne0 y2 (by omega))⟩
            · intro v hv
              have hp : p2 = 0 := Classical.byContradiction (fun c => hk2 c q)
              rw [if_pos hp] at hQ'
              rw [hv]; exact hQ'
            · intro v hv
              have hp : ¬ p2 = 0 := fun c => q (hk1 c)
              rw [if_neg hp] at hQ'
              rw [hv]; exact hQ'
      obtain ⟨j, hj, rfl⟩ := between (n := 1) rfl b1 b2
      refine ⟨fun q => key 0 (fun _ => rfl) (fun c => ?_), fun q => key 1 (fun c => ?_) (fun _ => by decide)⟩
      · exfalso
        have : j = 0 ∨ j = 1 := by omega
        rcases this with rfl | rfl
        · exact c rfl
        · exact q rfl
      · rw [c] at q; exact absurd q (by decide)
    · rw [if_pos (Or.inr q)] at hQ; exact hQ
  · rw [if_pos (Or.inl q)] at hQ; exact hQ
theorem m_on (hb : HB h n) (hM : HM h n now) {best first : Int32} {many : Int64} {cert poss : Int32} {goods : Nat → Int32} {t1 t2 t3 : Int32} (hk' : kn = 0 ∨ (kn = 1 ∧ KN h n best first many cert poss goods)) {p1 p2 : Int32} {Q : Int32 → Int32 → Int32 → Int32 → Int64 → Int32 → Int32 → (Nat → Int32) → Int32 → Int32 → Int32 → Prop}
    (hQ : ∀ (kn best first : Int32) (many : Int64) (cert poss : Int32) (goods : Nat → Int32) (t1 t2 t3 : Int32), (kn = 0 ∨ (kn = 1 ∧ KN h n best first many cert poss goods)) → Q (ONA h n p1 p2) kn best first many cert poss goods t1 t2 t3) : wp_X9_on now kn best first many cert poss goods t1 t2 t3 p1 p2 Q := by
  have hn := hb.1
  unfold wp_X9_on wp_X9_on_b20
  unfold ONA at hQ
  refine m_in (fun a1 a2 => ⟨fun q => absurd q (by decide), fun _ => ?_⟩) (fun q => ⟨fun _ => ?_, fun q => absurd rfl q⟩)
  · refine m_in (fun b1 b2 => ⟨fun _ => ?_, fun q => absurd q (by decide)⟩) (fun q => ⟨fun q => absurd rfl q, fun _ => ?_⟩)
    · rw [if_neg (by
        rintro ((c | c) | (c | c))
        · exact a1 c
        · exact a2 c
        · exact b1 c
        · exact b2 c)] at hQ
      refine m_knows hb hM hk' (fun best first many cert poss goods t1 t2 t3 hK => ?_)
      have hfin := fun t1 t2 t3 => hQ 1 best first many cert poss goods t1 t2 t3 (Or.inr ⟨rfl, hK⟩)
      have hfc := hK.2.1
      clear hK hQ
      subst hfc
      have hloop : ∀ (d k : Nat), k + d = n → wp_X9_on_h36 now Q (d + 1) p1 p2 (oI (onL h n p1 k)) (oI (onF h n p1 k)) (nI k) 1 best (nI (fc h n 0 none)) many cert poss goods t1 t2 t3 := by
        intro d
        induction d with
        | zero =>
          intro k hk
          have : k = n := by omega
          subst this
          rw [wp_X9_on_h36]
          unfold wp_X9_on_b146 wp_X9_on_b244
          rw [show now (0 : Int32).toNatClampNeg = nI k from hM.1, show now (1 : Int32).toNatClampNeg = nI (hRate h) from hM.2.1]
          refine bLE k k rfl rfl (by omega) (by omega) (fun _ => ?_) (fun q => by omega)
          cases ea : onL h k p1 k with
          | none =>
            rw [ea] at hfin
            exact ⟨fun _ => hfin t1 t2 t3, fun q => absurd rfl q⟩
          | some a =>
            obtain ⟨ha, hpa⟩ := onL_lt k a ea
            refine ⟨fun q => absurd q (nI_ne9 (by omega)), fun _ => ?_⟩
            cases eb : onF h k p1 k with
            | none =>
              rw [ea, eb] at hfin
              exact ⟨fun q => absurd rfl q, fun _ => hfin t1 t2 t3⟩
            | some b =>
              obtain ⟨hb', hpb⟩ := onF_lt k b eb
              rw [ea, eb] at hfin
              have hfin' : ∀ t1 t2 t3, Q (ONF h k p1 p2 a b) 1 best (nI (fc h k 0 none)) many cert poss goods t1 t2 t3 := hfin
              unfold ONF onC onG at hfin'
              refine ⟨fun _ => ?_, fun q => absurd q (nI_ne9 (by omega))⟩
              show wp_X9_farOf now (nI (fc h k 0 none)) t1 t2 t3 (nI a) _
              refine m_farOf hb hM ha (fun u1 u2 u3 => ?_)
              show wp_X9_farOf now (nI (fc h k 0 none)) u1 u2 u3 (nI b) _
              refine m_farOf hb hM hb' (fun u1 u2 u3 => ?_)
              show vp_in ((3 : Int32) + nI b) 33 ∧ _
              rw [show ((3 : Int32) + oI (some b)) = nI (3 + b) from nI_Ladd 3 b, show ((3 : Int32) + oI (some a)) = nI (3 + a) from nI_Ladd 3 a, nI_Ladd, nI_cl (by omega), nI_cl (by omega), (hM.2.2.2 a ha).1, (hM.2.2.2 b hb').1]
              refine ⟨vin (by omega) (by decide), ?_⟩
              intro x hx
              refine ⟨vin (by omega) (by decide), ?_⟩
              intro y hy
              rw [← hx, ← hy] at hfin'
              refine ⟨fun q => ?_, fun q => ?_⟩
              · rw [if_neg q] at hfin'
                refine ⟨fun c => ?_, fun c => ?_⟩
                · rw [if_neg (Int32.not_lt.mpr c)] at hfin'; exact hfin' _ _ _
                · rw [if_pos (Int32.not_le.mp c)] at hfin'; exact hfin' _ _ _
              · rw [if_pos q] at hfin'
                refine ⟨fun c => ?_, fun c => ?_⟩
                · rw [if_neg (Int32.not_lt.mpr c)] at hfin'; exact hfin' _ _ _
                · rw [if_pos (Int32.not_le.mp c)] at hfin'; exact hfin' _ _ _
        | succ d ih =>
          intro k hk
          rw [wp_X9_on_h36]
          unfold wp_X9_on_b66 wp_X9_on_b91
          dsimp only
          rw [show now (0 : Int32).toNatClampNeg = nI n from hM.1]
          refine bLE n k rfl rfl (by omega) (by omega) (fun q => by omega) (fun _ => ?_)
          have hnext := ih (k + 1) (by omega)
          have hz : ∀ x : Int32, x = nI k + 1 → x = nI (k + 1) := fun x hx => by rw [hx]; exact nI_1 k
          rw [nI_Ladd, nI_cl (by omega), (hM.2.2.2 k (by omega)).1]
          refine m_how hb hM (by omega) ?_
          have hpd := pd_lt h n k
          refine bEQ (pd h n k) 2 rfl rfl (by omega) (by decide) (fun c => ?_) (fun c => ?_)
          · rw [onL_n1 c, onF_n1 c] at hnext
            refine ⟨fun _ => ?_, fun q => absurd rfl q⟩
            unfold wp_X9_on_b92 wp_X9_on_b123 wp_X9_on_b125
            refine ⟨fun _ => ?_, fun q => absurd rfl q⟩
            intro z hz'; rw [hz z hz']; exact hnext
          · have h92 : ∀ v3 : Int32, v3 = oI (onL h n p1 (k + 1)) → wp_X9_on_b92 now Q (fun y0 y1 y2 y3 y4 y5 y6 y7 y8 y9 y10 y11 y12 y13 y14 => wp_X9_on_h36 now Q (d + 1) y0 y1 y2 y3 y4 y5 y6 y7 y8 y9 y10 y11 y12 y13 y14) v3 p1 p2 (oI (onF h n p1 k)) (nI k) 1 1 best (nI (fc h n 0 none)) many cert poss goods t1 t2 t3 := by
              intro v3 hv3
              subst hv3
              unfold wp_X9_on_b92 wp_X9_on_b123 wp_X9_on_b125
              rw [nI_Ladd, nI_cl (by omega), (hM.2.2.2 k (by omega)).1]
              refine ⟨fun q => absurd q (by decide), fun _ => ⟨vin (by omega) (by decide), fun q => ?_, fun q => ?_⟩⟩
              · rw [onF_n2 q] at hnext
                intro z hz'; rw [hz z hz']; exact hnext
              · cases ef : onF h n p1 k with
                | none =>
                  rw [onF_y ef c q] at hnext
                  refine ⟨fun q => absurd rfl q, fun _ => ?_⟩
                  intro z hz'; rw [hz z hz']; exact hnext
                | some j =>
                  rw [onF_s ef] at hnext
                  obtain ⟨hj, -⟩ := onF_lt k j ef
                  refine ⟨fun _ => ?_, fun q => absurd q (nI_ne9 (by omega))⟩
                  intro z hz'; rw [hz z hz']; exact hnext
            refine ⟨fun q => absurd q (by decide), fun _ => ⟨vin (by omega) (by decide), fun q => ?_, fun q => ?_⟩⟩
            · exact h92 _ (by rw [onL_n2 q])
            · exact h92 _ (by rw [onL_y c q]; rfl)
      exact ⟨n + 1, hloop n 0 (by omega)⟩
    · rw [if_pos (Or.inr q)] at hQ; exact hQ kn best first many cert poss goods t1 t2 t3 hk'
  · rw [if_pos (Or.inl q)] at hQ; exact hQ kn best first many cert poss goods t1 t2 t3 hk'
end
