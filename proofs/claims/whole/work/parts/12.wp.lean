def wp_X6_standOf (p0 : Int32) (p1 : Int32) (Q : Int32 → Prop) : Prop :=
  Q ((((p0 + (1 : Int32)) * (2 : Int32)) + p1) * (4 : Int32))
def wp_X6_place_h3 (h_wrap : Int32) (Q : (Nat → Int32) → (Nat → Int32) → (Nat → Int32) → Prop) : Nat → Int32 → Int32 → Int32 → Int32 → Int32 → (Nat → Int32) → (Nat → Int32) → (Nat → Int32) → Prop
  | 0 => fun _ _ _ _ _ _ _ _ => False
  | n + 1 => fun v1 v2 v3 v4 v5 s_days s_fars s_goods =>
    ((4 : Int32) ≤ v5 →
      Q s_days s_fars s_goods) ∧
    (¬ (4 : Int32) ≤ v5 →
      vp_in (v1 + v5) 88 ∧
      ∀ x39_1 : Int32, x39_1 = (v3 + (v5 * h_wrap)) →
      vp_in (v1 + v5) 88 ∧
      vp_in (v1 + v5) 88 ∧
      ∀ x51_2 : Int32, x51_2 = v5 + 1 →
      wp_X6_place_h3 h_wrap Q  n v1 v2 v3 v4 x51_2 (upd s_days (v1 + v5).toNatClampNeg v2) (upd s_fars (v1 + v5).toNatClampNeg x39_1) (upd s_goods (v1 + v5).toNatClampNeg v4))
def wp_X6_place (h_wrap : Int32) (s_days : Nat → Int32) (s_fars : Nat → Int32) (s_goods : Nat → Int32) (p1 : Int32) (p2 : Int32) (p3 : Int32) (p4 : Int32) (Q : (Nat → Int32) → (Nat → Int32) → (Nat → Int32) → Prop) : Prop :=
  ∃ n3, wp_X6_place_h3 h_wrap Q  n3 p1 p2 p3 p4 (0 : Int32) s_days s_fars s_goods
def wp_X6_measure_h10 (h_wrap : Int32) (e_days : Nat → Int32) (e_firsts : Nat → Int32) (e_seconds : Nat → Int32) (e_size : Int32) (Q : (Nat → Int32) → (Nat → Int32) → (Nat → Int32) → Prop) : Nat → Int32 → (Nat → Int32) → (Nat → Int32) → (Nat → Int32) → Prop
  | 0 => fun _ _ _ _ => False
  | n + 1 => fun v2 s_days s_fars s_goods =>
    (e_size ≤ v2 →
      Q s_days s_fars s_goods) ∧
    (¬ e_size ≤ v2 →
      vp_in v2 10 ∧
      ∀ x24_1 : Int32, x24_1 = (e_firsts v2.toNatClampNeg) →
      vp_in v2 10 ∧
      ∀ x31_2 : Int32, x31_2 = (e_seconds v2.toNatClampNeg) →
      wp_X6_standOf v2 (0 : Int32) (fun r36_3 =>
        vp_in v2 10 ∧
        wp_X6_place h_wrap s_days s_fars s_goods r36_3 (e_days v2.toNatClampNeg) x24_1 ((2 : Int32) * x31_2) (fun s_days_50_4 s_fars_50_5 s_goods_50_6 =>
          wp_X6_standOf v2 (1 : Int32) (fun r56_7 =>
            vp_in v2 10 ∧
            wp_X6_place h_wrap s_days_50_4 s_fars_50_5 s_goods_50_6 r56_7 (e_days v2.toNatClampNeg) ((x24_1 * (5 : Int32)) / (8 : Int32)) x31_2 (fun s_days_73_8 s_fars_73_9 s_goods_73_10 =>
              ∀ x76_11 : Int32, x76_11 = v2 + 1 →
              wp_X6_measure_h10 h_wrap e_days e_firsts e_seconds e_size Q  n x76_11 s_days_73_8 s_fars_73_9 s_goods_73_10)))))
def wp_X6_measure (h_wrap : Int32) (e_days : Nat → Int32) (e_firsts : Nat → Int32) (e_seconds : Nat → Int32) (e_size : Int32) (s_days : Nat → Int32) (s_fars : Nat → Int32) (s_goods : Nat → Int32) (Q : (Nat → Int32) → (Nat → Int32) → (Nat → Int32) → Prop) : Prop :=
  ∃ n10, wp_X6_measure_h10 h_wrap e_days e_firsts e_seconds e_size Q  n10 (0 : Int32) s_days s_fars s_goods
def wp_J7_fill_53178_h5 (N : Nat) (Q : (Nat → Int32) → Prop) : Nat → Int32 → Int32 → Int32 → (Nat → Int32) → Prop
  | 0 => fun _ _ _ _ => False
  | n + 1 => fun v1 v2 v3 f_row =>
    (v3 ≤ v2 →
      Q f_row) ∧
    (¬ v3 ≤ v2 →
      vp_in v2 N ∧
      ∀ x14_1 : Int32, x14_1 = v2 + 1 →
      wp_J7_fill_53178_h5 N Q  n v1 x14_1 v3 (upd f_row v2.toNatClampNeg v1))
def wp_J7_fill_53178 (N : Nat) (f_row : Nat → Int32) (p1 : Int32) (Q : (Nat → Int32) → Prop) : Prop :=
  ∀ x4_2 : Int32, x4_2 = (nI N) →
  ∃ n5, wp_J7_fill_53178_h5 N Q  n5 p1 (0 : Int32) x4_2 f_row
def wp_X6_size (e_size : Int32) (Q : Int32 → Prop) : Prop :=
  Q e_size
def wp_X6_end (e_size : Int32) (Q : Int32 → Prop) : Prop :=
  wp_X6_size e_size (fun r1_1 =>
    wp_X6_standOf r1_1 (0 : Int32) (fun r5_2 =>
      Q r5_2))
def wp_X6_readingOf (p0 : Int32) (Q : Int32 → Prop) : Prop :=
  Q ((p0 / (8 : Int32)) - (1 : Int32))
def wp_X6_mostGone (h_rate : Int32) (p1 : Int32) (p2 : Int32) (Q : Int32 → Prop) : Prop :=
  Q (h_rate * (p2 - p1))
def wp_X6_following_b79 (h_rate : Int32) (s_days : Nat → Int32) (s_fars : Nat → Int32) (Q : Int32 → Prop) (K17 : Int32 → Int32 → Int32 → Prop) (k0 : Int32) : Prop :=
  Q k0
def wp_X6_following_h17 (h_rate : Int32) (s_days : Nat → Int32) (s_fars : Nat → Int32) (Q : Int32 → Prop) : Nat → Int32 → Int32 → Int32 → Prop
  | 0 => fun _ _ _ => False
  | n + 1 => fun v1 v4 v5 =>
    ((4 : Int32) ≤ v5 →
      Q (-1 : Int32)) ∧
    (¬ (4 : Int32) ≤ v5 →
      vp_in (v4 + v5) 88 ∧
      vp_in v1 88 ∧
      ∀ x40_1 : Int32, x40_1 = ((s_fars (v4 + v5).toNatClampNeg) - (s_fars v1.toNatClampNeg)) →
      (x40_1 < 0 →
        ∀ x80_2 : Int32, x80_2 = v5 + 1 →
        wp_X6_following_h17 h_rate s_days s_fars Q  n v1 v4 x80_2) ∧
      (¬ x40_1 < 0 →
        vp_in v1 88 ∧
        vp_in v4 88 ∧
        wp_X6_mostGone h_rate (s_days v1.toNatClampNeg) (s_days v4.toNatClampNeg) (fun r63_3 =>
          (r63_3 < x40_1 →
            wp_X6_following_b79 h_rate s_days s_fars Q (fun y0 y1 y2 => wp_X6_following_h17 h_rate s_days s_fars Q  n y0 y1 y2) (-2 : Int32)) ∧
          (¬ r63_3 < x40_1 →
            wp_X6_following_b79 h_rate s_days s_fars Q (fun y0 y1 y2 => wp_X6_following_h17 h_rate s_days s_fars Q  n y0 y1 y2) (v4 + v5)))))
def wp_X6_following (h_rate : Int32) (s_days : Nat → Int32) (s_fars : Nat → Int32) (p1 : Int32) (p2 : Int32) (p3 : Int32) (Q : Int32 → Prop) : Prop :=
  wp_X6_standOf p2 p3 (fun r2_4 =>
    (¬ p1 = 0 →
      ∃ n17, wp_X6_following_h17 h_rate s_days s_fars Q  n17 p1 r2_4 (0 : Int32)) ∧
    (p1 = 0 →
      Q r2_4))
def wp_X5_spread_b76 (h_rate : Int32) (e_size : Int32) (s_days : Nat → Int32) (s_fars : Nat → Int32) (s_goods : Nat → Int32) (Q : (Nat → Int32) → Prop) (K7 : Int32 → Int32 → (Nat → Int32) → Prop) (K20 : Int32 → Int32 → Int32 → (Nat → Int32) → Prop) (v1 : Int32) (v2 : Int32) (v3 : Int32) (r_until : Nat → Int32) : Prop :=
  ∀ x76_1 : Int32, x76_1 = v3 + 1 →
  K20 v1 v2 x76_1 r_until
def wp_X5_spread_h20 (h_rate : Int32) (e_size : Int32) (s_days : Nat → Int32) (s_fars : Nat → Int32) (s_goods : Nat → Int32) (Q : (Nat → Int32) → Prop) (K7 : Int32 → Int32 → (Nat → Int32) → Prop) : Nat → Int32 → Int32 → Int32 → (Nat → Int32) → Prop
  | 0 => fun _ _ _ _ => False
  | n + 1 => fun v1 v2 v3 r_until =>
    ((2 : Int32) ≤ v3 →
      ∀ x82_2 : Int32, x82_2 = v2 + 1 →
      K7 v1 x82_2 r_until) ∧
    (¬ (2 : Int32) ≤ v3 →
      wp_X6_following h_rate s_days s_fars v1 v2 v3 (fun r32_3 =>
        (r32_3 < 0 →
          wp_X5_spread_b76 h_rate e_size s_days s_fars s_goods Q K7 (fun y0 y1 y2 y3 => wp_X5_spread_h20 h_rate e_size s_days s_fars s_goods Q K7 n y0 y1 y2 y3) v1 v2 v3 r_until) ∧
        (¬ r32_3 < 0 →
          vp_in r32_3 88 ∧
          vp_in v1 88 ∧
          vp_in r32_3 88 ∧
          ∀ x72_4 : Int32, x72_4 = (if (r_until r32_3.toNatClampNeg) < ((r_until v1.toNatClampNeg) + (s_goods r32_3.toNatClampNeg)) then ((r_until v1.toNatClampNeg) + (s_goods r32_3.toNatClampNeg)) else (r_until r32_3.toNatClampNeg)) →
          vp_in r32_3 88 ∧
          wp_X5_spread_b76 h_rate e_size s_days s_fars s_goods Q K7 (fun y0 y1 y2 y3 => wp_X5_spread_h20 h_rate e_size s_days s_fars s_goods Q K7 n y0 y1 y2 y3) v1 v2 v3 (upd r_until r32_3.toNatClampNeg x72_4))))
def wp_X5_spread_h7 (h_rate : Int32) (e_size : Int32) (s_days : Nat → Int32) (s_fars : Nat → Int32) (s_goods : Nat → Int32) (Q : (Nat → Int32) → Prop) : Nat → Int32 → Int32 → (Nat → Int32) → Prop
  | 0 => fun _ _ _ => False
  | n + 1 => fun v1 v2 r_until =>
    wp_X6_size e_size (fun r12_5 =>
      (r12_5 ≤ v2 →
        Q r_until) ∧
      (¬ r12_5 ≤ v2 →
        ∃ n20, wp_X5_spread_h20 h_rate e_size s_days s_fars s_goods Q (fun y0 y1 y2 => wp_X5_spread_h7 h_rate e_size s_days s_fars s_goods Q  n y0 y1 y2) n20 v1 v2 (0 : Int32) r_until))
def wp_X5_spread (h_rate : Int32) (e_size : Int32) (s_days : Nat → Int32) (s_fars : Nat → Int32) (s_goods : Nat → Int32) (r_until : Nat → Int32) (p1 : Int32) (Q : (Nat → Int32) → Prop) : Prop :=
  wp_X6_readingOf p1 (fun r1_6 =>
    ∀ x6_7 : Int32, x6_7 = (r1_6 + (1 : Int32)) →
    ∃ n7, wp_X5_spread_h7 h_rate e_size s_days s_fars s_goods Q  n7 p1 x6_7 r_until)
def wp_X5_goForward_b42 (h_rate : Int32) (e_size : Int32) (s_days : Nat → Int32) (s_fars : Nat → Int32) (s_goods : Nat → Int32) (Q : (Nat → Int32) → Prop) (K17 : Int32 → (Nat → Int32) → Prop) (v1 : Int32) (r_until : Nat → Int32) : Prop :=
  ∀ x42_1 : Int32, x42_1 = v1 + 1 →
  K17 x42_1 r_until
def wp_X5_goForward_h17 (h_rate : Int32) (e_size : Int32) (s_days : Nat → Int32) (s_fars : Nat → Int32) (s_goods : Nat → Int32) (Q : (Nat → Int32) → Prop) : Nat → Int32 → (Nat → Int32) → Prop
  | 0 => fun _ _ => False
  | n + 1 => fun v1 r_until =>
    wp_X6_end e_size (fun r22_2 =>
      (r22_2 ≤ v1 →
        Q r_until) ∧
      (¬ r22_2 ≤ v1 →
        vp_in v1 88 ∧
        ((r_until v1.toNatClampNeg) < 0 →
          wp_X5_goForward_b42 h_rate e_size s_days s_fars s_goods Q (fun y0 y1 => wp_X5_goForward_h17 h_rate e_size s_days s_fars s_goods Q  n y0 y1) v1 r_until) ∧
        (¬ (r_until v1.toNatClampNeg) < 0 →
          wp_X5_spread h_rate e_size s_days s_fars s_goods r_until v1 (fun r_until_39_3 =>
            wp_X5_goForward_b42 h_rate e_size s_days s_fars s_goods Q (fun y0 y1 => wp_X5_goForward_h17 h_rate e_size s_days s_fars s_goods Q  n y0 y1) v1 r_until_39_3))))
def wp_X5_goForward (h_rate : Int32) (e_size : Int32) (s_days : Nat → Int32) (s_fars : Nat → Int32) (s_goods : Nat → Int32) (r_until : Nat → Int32) (Q : (Nat → Int32) → Prop) : Prop :=
  wp_J7_fill_53178 88 r_until (-1 : Int32) (fun f_row_5_4 =>
    ∃ n17, wp_X5_goForward_h17 h_rate e_size s_days s_fars s_goods Q  n17 (0 : Int32) (upd f_row_5_4 (0 : Int32).toNatClampNeg (0 : Int32)))
def wp_X5_gather_b203 (h_rate : Int32) (e_size : Int32) (s_days : Nat → Int32) (s_fars : Nat → Int32) (s_goods : Nat → Int32) (Q : (Nat → Int32) → (Nat → Int64) → (Nat → Int32) → (Nat → Int32) → Prop) (k0 : Int32) (v1 : Int32) (v2 : Int32) (v3 : Int64) (v5 : Int32) (v6 : Int32) (r_rest : Nat → Int32) (r_ways : Nat → Int64) (r_inEach : Nat → Int32) (r_inAny : Nat → Int32) : Prop :=
  vp_in v1 88 ∧
  ∀ x221_1 : Int32, x221_1 = (v2 + (s_goods v1.toNatClampNeg)) →
  vp_in v1 88 ∧
  vp_in v1 88 ∧
  ∀ x239_2 : Int32, x239_2 = (v5 ||| k0) →
  vp_in v1 88 ∧
  ∀ x250_3 : Int32, x250_3 = (v6 ||| k0) →
  vp_in v1 88 ∧
  Q (upd r_rest v1.toNatClampNeg x221_1) (vp_updL r_ways v1.toNatClampNeg v3) (upd r_inEach v1.toNatClampNeg x239_2) (upd r_inAny v1.toNatClampNeg x250_3)
def wp_X5_gather_b177 (h_rate : Int32) (e_size : Int32) (s_days : Nat → Int32) (s_fars : Nat → Int32) (s_goods : Nat → Int32) (Q : (Nat → Int32) → (Nat → Int64) → (Nat → Int32) → (Nat → Int32) → Prop) (K18 : Int32 → Int32 → Int64 → Int32 → Int32 → Int32 → (Nat → Int32) → (Nat → Int64) → (Nat → Int32) → (Nat → Int32) → Prop) (K33 : Int32 → Int32 → Int64 → Int32 → Int32 → Int32 → Int32 → (Nat → Int32) → (Nat → Int64) → (Nat → Int32) → (Nat → Int32) → Prop) (v1 : Int32) (v2 : Int32) (v3 : Int64) (v5 : Int32) (v6 : Int32) (v7 : Int32) (v8 : Int32) (r_rest : Nat → Int32) (r_ways : Nat → Int64) (r_inEach : Nat → Int32) (r_inAny : Nat → Int32) : Prop :=
  ∀ x177_4 : Int32, x177_4 = v8 + 1 →
  K33 v1 v2 v3 v5 v6 v7 x177_4 r_rest r_ways r_inEach r_inAny
def wp_X5_gather_b175 (h_rate : Int32) (e_size : Int32) (s_days : Nat → Int32) (s_fars : Nat → Int32) (s_goods : Nat → Int32) (Q : (Nat → Int32) → (Nat → Int64) → (Nat → Int32) → (Nat → Int32) → Prop) (K18 : Int32 → Int32 → Int64 → Int32 → Int32 → Int32 → (Nat → Int32) → (Nat → Int64) → (Nat → Int32) → (Nat → Int32) → Prop) (K33 : Int32 → Int32 → Int64 → Int32 → Int32 → Int32 → Int32 → (Nat → Int32) → (Nat → Int64) → (Nat → Int32) → (Nat → Int32) → Prop) (k0 : Int32) (v1 : Int32) (v2 : Int32) (v3 : Int64) (v5 : Int32) (v7 : Int32) (v8 : Int32) (r_rest : Nat → Int32) (r_ways : Nat → Int64) (r_inEach : Nat → Int32) (r_inAny : Nat → Int32) : Prop :=
  wp_X5_gather_b177 h_rate e_size s_days s_fars s_goods Q K18 K33 v1 v2 v3 v5 k0 v7 v8 r_rest r_ways r_inEach r_inAny
def wp_X5_gather_b148 (h_rate : Int32) (e_size : Int32) (s_days : Nat → Int32) (s_fars : Nat → Int32) (s_goods : Nat → Int32) (Q : (Nat → Int32) → (Nat → Int64) → (Nat → Int32) → (Nat → Int32) → Prop) (K18 : Int32 → Int32 → Int64 → Int32 → Int32 → Int32 → (Nat → Int32) → (Nat → Int64) → (Nat → Int32) → (Nat → Int32) → Prop) (K33 : Int32 → Int32 → Int64 → Int32 → Int32 → Int32 → Int32 → (Nat → Int32) → (Nat → Int64) → (Nat → Int32) → (Nat → Int32) → Prop) (k0 : Int32) (v1 : Int32) (v2 : Int32) (v3 : Int64) (v6 : Int32) (v7 : Int32) (v8 : Int32) (v9 : Int32) (v10 : Int32) (r_rest : Nat → Int32) (r_ways : Nat → Int64) (r_inEach : Nat → Int32) (r_inAny : Nat → Int32) : Prop :=
  (v10 = 0 →
    vp_in v9 88 ∧
    wp_X5_gather_b175 h_rate e_size s_days s_fars s_goods Q K18 K33 (v6 ||| (r_inAny v9.toNatClampNeg)) v1 v2 v3 k0 v7 v8 r_rest r_ways r_inEach r_inAny) ∧
  (¬ v10 = 0 →
    vp_in v9 88 ∧
    wp_X5_gather_b175 h_rate e_size s_days s_fars s_goods Q K18 K33 (r_inAny v9.toNatClampNeg) v1 v2 v3 k0 v7 v8 r_rest r_ways r_inEach r_inAny)
def wp_X5_gather_b122 (h_rate : Int32) (e_size : Int32) (s_days : Nat → Int32) (s_fars : Nat → Int32) (s_goods : Nat → Int32) (Q : (Nat → Int32) → (Nat → Int64) → (Nat → Int32) → (Nat → Int32) → Prop) (K18 : Int32 → Int32 → Int64 → Int32 → Int32 → Int32 → (Nat → Int32) → (Nat → Int64) → (Nat → Int32) → (Nat → Int32) → Prop) (K33 : Int32 → Int32 → Int64 → Int32 → Int32 → Int32 → Int32 → (Nat → Int32) → (Nat → Int64) → (Nat → Int32) → (Nat → Int32) → Prop) (k0 : Int64) (v1 : Int32) (v2 : Int32) (v5 : Int32) (v6 : Int32) (v7 : Int32) (v8 : Int32) (v9 : Int32) (v10 : Int32) (r_rest : Nat → Int32) (r_ways : Nat → Int64) (r_inEach : Nat → Int32) (r_inAny : Nat → Int32) : Prop :=
  (v10 = 0 →
    vp_in v9 88 ∧
    wp_X5_gather_b148 h_rate e_size s_days s_fars s_goods Q K18 K33 (v5 &&& (r_inEach v9.toNatClampNeg)) v1 v2 k0 v6 v7 v8 v9 v10 r_rest r_ways r_inEach r_inAny) ∧
  (¬ v10 = 0 →
    vp_in v9 88 ∧
    wp_X5_gather_b148 h_rate e_size s_days s_fars s_goods Q K18 K33 (r_inEach v9.toNatClampNeg) v1 v2 k0 v6 v7 v8 v9 v10 r_rest r_ways r_inEach r_inAny)
def wp_X5_gather_b88 (h_rate : Int32) (e_size : Int32) (s_days : Nat → Int32) (s_fars : Nat → Int32) (s_goods : Nat → Int32) (Q : (Nat → Int32) → (Nat → Int64) → (Nat → Int32) → (Nat → Int32) → Prop) (K18 : Int32 → Int32 → Int64 → Int32 → Int32 → Int32 → (Nat → Int32) → (Nat → Int64) → (Nat → Int32) → (Nat → Int32) → Prop) (K33 : Int32 → Int32 → Int64 → Int32 → Int32 → Int32 → Int32 → (Nat → Int32) → (Nat → Int64) → (Nat → Int32) → (Nat → Int32) → Prop) (k0 : Int32) (v1 : Int32) (v3 : Int64) (v5 : Int32) (v6 : Int32) (v7 : Int32) (v8 : Int32) (v9 : Int32) (r_rest : Nat → Int32) (r_ways : Nat → Int64) (r_inEach : Nat → Int32) (r_inAny : Nat → Int32) : Prop :=
  vp_in v9 88 ∧
  ∀ x97_5 : Int32, x97_5 = (r_rest v9.toNatClampNeg) →
  (k0 = 0 →
    vp_in v9 88 ∧
    wp_X5_gather_b122 h_rate e_size s_days s_fars s_goods Q K18 K33 (v3 + (r_ways v9.toNatClampNeg)) v1 x97_5 v5 v6 v7 v8 v9 k0 r_rest r_ways r_inEach r_inAny) ∧
  (¬ k0 = 0 →
    vp_in v9 88 ∧
    wp_X5_gather_b122 h_rate e_size s_days s_fars s_goods Q K18 K33 (r_ways v9.toNatClampNeg) v1 x97_5 v5 v6 v7 v8 v9 k0 r_rest r_ways r_inEach r_inAny)
def wp_X5_gather_h33 (h_rate : Int32) (e_size : Int32) (s_days : Nat → Int32) (s_fars : Nat → Int32) (s_goods : Nat → Int32) (Q : (Nat → Int32) → (Nat → Int64) → (Nat → Int32) → (Nat → Int32) → Prop) (K18 : Int32 → Int32 → Int64 → Int32 → Int32 → Int32 → (Nat → Int32) → (Nat → Int64) → (Nat → Int32) → (Nat → Int32) → Prop) : Nat → Int32 → Int32 → Int64 → Int32 → Int32 → Int32 → Int32 → (Nat → Int32) → (Nat → Int64) → (Nat → Int32) → (Nat → Int32) → Prop
  | 0 => fun _ _ _ _ _ _ _ _ _ _ _ => False
  | n + 1 => fun v1 v2 v3 v5 v6 v7 v8 r_rest r_ways r_inEach r_inAny =>
    ((2 : Int32) ≤ v8 →
      ∀ x183_6 : Int32, x183_6 = v7 + 1 →
      K18 v1 v2 v3 v5 v6 x183_6 r_rest r_ways r_inEach r_inAny) ∧
    (¬ (2 : Int32) ≤ v8 →
      wp_X6_following h_rate s_days s_fars v1 v7 v8 (fun r48_7 =>
        (r48_7 < 0 →
          wp_X5_gather_b177 h_rate e_size s_days s_fars s_goods Q K18 (fun y0 y1 y2 y3 y4 y5 y6 y7 y8 y9 y10 => wp_X5_gather_h33 h_rate e_size s_days s_fars s_goods Q K18 n y0 y1 y2 y3 y4 y5 y6 y7 y8 y9 y10) v1 v2 v3 v5 v6 v7 v8 r_rest r_ways r_inEach r_inAny) ∧
        (¬ r48_7 < 0 →
          vp_in r48_7 88 ∧
          (v2 ≤ (r_rest r48_7.toNatClampNeg) →
            vp_in r48_7 88 ∧
            ((r_rest r48_7.toNatClampNeg) ≤ v2 →
              wp_X5_gather_b88 h_rate e_size s_days s_fars s_goods Q K18 (fun y0 y1 y2 y3 y4 y5 y6 y7 y8 y9 y10 => wp_X5_gather_h33 h_rate e_size s_days s_fars s_goods Q K18 n y0 y1 y2 y3 y4 y5 y6 y7 y8 y9 y10) (0 : Int32) v1 v3 v5 v6 v7 v8 r48_7 r_rest r_ways r_inEach r_inAny) ∧
            (¬ (r_rest r48_7.toNatClampNeg) ≤ v2 →
              wp_X5_gather_b88 h_rate e_size s_days s_fars s_goods Q K18 (fun y0 y1 y2 y3 y4 y5 y6 y7 y8 y9 y10 => wp_X5_gather_h33 h_rate e_size s_days s_fars s_goods Q K18 n y0 y1 y2 y3 y4 y5 y6 y7 y8 y9 y10) (1 : Int32) v1 v3 v5 v6 v7 v8 r48_7 r_rest r_ways r_inEach r_inAny)) ∧
          (¬ v2 ≤ (r_rest r48_7.toNatClampNeg) →
            wp_X5_gather_b177 h_rate e_size s_days s_fars s_goods Q K18 (fun y0 y1 y2 y3 y4 y5 y6 y7 y8 y9 y10 => wp_X5_gather_h33 h_rate e_size s_days s_fars s_goods Q K18 n y0 y1 y2 y3 y4 y5 y6 y7 y8 y9 y10) v1 v2 v3 v5 v6 v7 v8 r_rest r_ways r_inEach r_inAny))))
def wp_X5_gather_h18 (h_rate : Int32) (e_size : Int32) (s_days : Nat → Int32) (s_fars : Nat → Int32) (s_goods : Nat → Int32) (Q : (Nat → Int32) → (Nat → Int64) → (Nat → Int32) → (Nat → Int32) → Prop) : Nat → Int32 → Int32 → Int64 → Int32 → Int32 → Int32 → (Nat → Int32) → (Nat → Int64) → (Nat → Int32) → (Nat → Int32) → Prop
  | 0 => fun _ _ _ _ _ _ _ _ _ _ => False
  | n + 1 => fun v1 v2 v3 v5 v6 v7 r_rest r_ways r_inEach r_inAny =>
    wp_X6_size e_size (fun r24_8 =>
      (r24_8 ≤ v7 →
        (¬ v1 = 0 →
          wp_X6_readingOf v1 (fun r199_9 =>
            wp_X5_gather_b203 h_rate e_size s_days s_fars s_goods Q  ((1 : Int32) <<< (r199_9 &&& 31)) v1 v2 v3 v5 v6 r_rest r_ways r_inEach r_inAny)) ∧
        (v1 = 0 →
          wp_X5_gather_b203 h_rate e_size s_days s_fars s_goods Q  (0 : Int32) v1 v2 v3 v5 v6 r_rest r_ways r_inEach r_inAny)) ∧
      (¬ r24_8 ≤ v7 →
        ∃ n33, wp_X5_gather_h33 h_rate e_size s_days s_fars s_goods Q (fun y0 y1 y2 y3 y4 y5 y6 y7 y8 y9 => wp_X5_gather_h18 h_rate e_size s_days s_fars s_goods Q  n y0 y1 y2 y3 y4 y5 y6 y7 y8 y9) n33 v1 v2 v3 v5 v6 v7 (0 : Int32) r_rest r_ways r_inEach r_inAny))
def wp_X5_gather (h_rate : Int32) (e_size : Int32) (s_days : Nat → Int32) (s_fars : Nat → Int32) (s_goods : Nat → Int32) (r_rest : Nat → Int32) (r_ways : Nat → Int64) (r_inEach : Nat → Int32) (r_inAny : Nat → Int32) (p1 : Int32) (Q : (Nat → Int32) → (Nat → Int64) → (Nat → Int32) → (Nat → Int32) → Prop) : Prop :=
  wp_X6_readingOf p1 (fun r11_10 =>
    ∀ x16_11 : Int32, x16_11 = (r11_10 + (1 : Int32)) →
    ∃ n18, wp_X5_gather_h18 h_rate e_size s_days s_fars s_goods Q  n18 p1 (0 : Int32) (1 : Int64) (0 : Int32) (0 : Int32) x16_11 r_rest r_ways r_inEach r_inAny)
def wp_X5_goBackward_b28 (h_rate : Int32) (e_size : Int32) (s_days : Nat → Int32) (s_fars : Nat → Int32) (s_goods : Nat → Int32) (r_until : Nat → Int32) (Q : (Nat → Int32) → (Nat → Int64) → (Nat → Int32) → (Nat → Int32) → Prop) (K10 : Int32 → (Nat → Int32) → (Nat → Int64) → (Nat → Int32) → (Nat → Int32) → Prop) (v1 : Int32) (r_rest : Nat → Int32) (r_ways : Nat → Int64) (r_inEach : Nat → Int32) (r_inAny : Nat → Int32) : Prop :=
  ∀ x28_1 : Int32, x28_1 = v1 + (-1) →
  K10 x28_1 r_rest r_ways r_inEach r_inAny
def wp_X5_goBackward_h10 (h_rate : Int32) (e_size : Int32) (s_days : Nat → Int32) (s_fars : Nat → Int32) (s_goods : Nat → Int32) (r_until : Nat → Int32) (Q : (Nat → Int32) → (Nat → Int64) → (Nat → Int32) → (Nat → Int32) → Prop) : Nat → Int32 → (Nat → Int32) → (Nat → Int64) → (Nat → Int32) → (Nat → Int32) → Prop
  | 0 => fun _ _ _ _ _ => False
  | n + 1 => fun v1 r_rest r_ways r_inEach r_inAny =>
    (v1 < 0 →
      Q r_rest r_ways r_inEach r_inAny) ∧
    (¬ v1 < 0 →
      vp_in v1 88 ∧
      ((r_until v1.toNatClampNeg) < 0 →
        wp_X5_goBackward_b28 h_rate e_size s_days s_fars s_goods r_until Q (fun y0 y1 y2 y3 y4 => wp_X5_goBackward_h10 h_rate e_size s_days s_fars s_goods r_until Q  n y0 y1 y2 y3 y4) v1 r_rest r_ways r_inEach r_inAny) ∧
      (¬ (r_until v1.toNatClampNeg) < 0 →
        wp_X5_gather h_rate e_size s_days s_fars s_goods r_rest r_ways r_inEach r_inAny v1 (fun r_rest_25_2 r_ways_25_3 r_inEach_25_4 r_inAny_25_5 =>
          wp_X5_goBackward_b28 h_rate e_size s_days s_fars s_goods r_until Q (fun y0 y1 y2 y3 y4 => wp_X5_goBackward_h10 h_rate e_size s_days s_fars s_goods r_until Q  n y0 y1 y2 y3 y4) v1 r_rest_25_2 r_ways_25_3 r_inEach_25_4 r_inAny_25_5)))
def wp_X5_goBackward (h_rate : Int32) (e_size : Int32) (s_days : Nat → Int32) (s_fars : Nat → Int32) (s_goods : Nat → Int32) (r_until : Nat → Int32) (r_rest : Nat → Int32) (r_ways : Nat → Int64) (r_inEach : Nat → Int32) (r_inAny : Nat → Int32) (Q : (Nat → Int32) → (Nat → Int64) → (Nat → Int32) → (Nat → Int32) → Prop) : Prop :=
  wp_X6_end e_size (fun r4_6 =>
    ∀ x9_7 : Int32, x9_7 = (r4_6 - (1 : Int32)) →
    ∃ n10, wp_X5_goBackward_h10 h_rate e_size s_days s_fars s_goods r_until Q  n10 x9_7 r_rest r_ways r_inEach r_inAny)
def wp_X5_bestStand_b41 (h_rate : Int32) (s_days : Nat → Int32) (s_fars : Nat → Int32) (r_rest : Nat → Int32) (Q : Int32 → Prop) (K3 : Int32 → Int32 → Int32 → Int32 → Prop) (v1 : Int32) (v2 : Int32) (v3 : Int32) (v4 : Int32) : Prop :=
  ∀ x41_1 : Int32, x41_1 = v4 + 1 →
  K3 v1 v2 v3 x41_1
def wp_X5_bestStand_h3 (h_rate : Int32) (s_days : Nat → Int32) (s_fars : Nat → Int32) (r_rest : Nat → Int32) (Q : Int32 → Prop) : Nat → Int32 → Int32 → Int32 → Int32 → Prop
  | 0 => fun _ _ _ _ => False
  | n + 1 => fun v1 v2 v3 v4 =>
    ((2 : Int32) ≤ v4 →
      Q (0 : Int32)) ∧
    (¬ (2 : Int32) ≤ v4 →
      wp_X6_following h_rate s_days s_fars v1 v2 v4 (fun r17_2 =>
        (r17_2 < 0 →
          wp_X5_bestStand_b41 h_rate s_days s_fars r_rest Q (fun y0 y1 y2 y3 => wp_X5_bestStand_h3 h_rate s_days s_fars r_rest Q  n y0 y1 y2 y3) v1 v2 v3 v4) ∧
        (¬ r17_2 < 0 →
          vp_in r17_2 88 ∧
          (¬ (r_rest r17_2.toNatClampNeg) = v3 →
            wp_X5_bestStand_b41 h_rate s_days s_fars r_rest Q (fun y0 y1 y2 y3 => wp_X5_bestStand_h3 h_rate s_days s_fars r_rest Q  n y0 y1 y2 y3) v1 v2 v3 v4) ∧
          ((r_rest r17_2.toNatClampNeg) = v3 →
            Q r17_2))))
def wp_X5_bestStand (h_rate : Int32) (s_days : Nat → Int32) (s_fars : Nat → Int32) (r_rest : Nat → Int32) (p1 : Int32) (p2 : Int32) (p3 : Int32) (Q : Int32 → Prop) : Prop :=
  ∃ n3, wp_X5_bestStand_h3 h_rate s_days s_fars r_rest Q  n3 p1 p2 p3 (0 : Int32)
def wp_X5_reasonBehind (h_rate : Int32) (s_days : Nat → Int32) (s_fars : Nat → Int32) (p1 : Int32) (p2 : Int32) (Q : Int32 → Prop) : Prop :=
  wp_X6_following h_rate s_days s_fars p1 p2 (0 : Int32) (fun r7_1 =>
    (r7_1 = (-2) →
      Q (2 : Int32)) ∧
    (r7_1 = (-1) →
      Q (1 : Int32)) ∧
    (¬ r7_1 = (-2) → ¬ r7_1 = (-1) →
      Q (3 : Int32)))
def wp_X5_chooseFirst_b96 (h_rate : Int32) (e_size : Int32) (s_days : Nat → Int32) (s_fars : Nat → Int32) (s_goods : Nat → Int32) (r_rest : Nat → Int32) (Q : (Nat → Int32) → (Nat → Int32) → Int32 → Prop) (K16 : Int32 → Int32 → Int32 → (Nat → Int32) → (Nat → Int32) → Int32 → Prop) (v1 : Int32) (v2 : Int32) (v3 : Int32) (r_firsts : Nat → Int32) (r_reasons : Nat → Int32) (r_keptInFirst : Int32) : Prop :=
  ∀ x96_1 : Int32, x96_1 = v3 + 1 →
  K16 v1 v2 x96_1 r_firsts r_reasons r_keptInFirst
def wp_X5_chooseFirst_b64 (h_rate : Int32) (e_size : Int32) (s_days : Nat → Int32) (s_fars : Nat → Int32) (s_goods : Nat → Int32) (r_rest : Nat → Int32) (Q : (Nat → Int32) → (Nat → Int32) → Int32 → Prop) (K16 : Int32 → Int32 → Int32 → (Nat → Int32) → (Nat → Int32) → Int32 → Prop) (k0 : Int32) (k1 : Int32) (v1 : Int32) (v2 : Int32) (v3 : Int32) (v4 : Int32) (r_firsts : Nat → Int32) (r_reasons : Nat → Int32) (r_keptInFirst : Int32) : Prop :=
  vp_in k1 10 ∧
  (v4 = 0 →
    wp_X5_chooseFirst_b96 h_rate e_size s_days s_fars s_goods r_rest Q K16 v1 v2 v3 r_firsts (upd r_reasons k1.toNatClampNeg k0) r_keptInFirst) ∧
  (¬ v4 = 0 →
    vp_in v4 88 ∧
    ∀ x82_2 : Int32, x82_2 = (v2 - (s_goods v4.toNatClampNeg)) →
    ∀ x93_3 : Int32, x93_3 = (r_keptInFirst + (1 : Int32)) →
    wp_X5_chooseFirst_b96 h_rate e_size s_days s_fars s_goods r_rest Q K16 v4 x82_2 v3 r_firsts (upd r_reasons k1.toNatClampNeg k0) x93_3)
def wp_X5_chooseFirst_h16 (h_rate : Int32) (e_size : Int32) (s_days : Nat → Int32) (s_fars : Nat → Int32) (s_goods : Nat → Int32) (r_rest : Nat → Int32) (Q : (Nat → Int32) → (Nat → Int32) → Int32 → Prop) : Nat → Int32 → Int32 → Int32 → (Nat → Int32) → (Nat → Int32) → Int32 → Prop
  | 0 => fun _ _ _ _ _ _ => False
  | n + 1 => fun v1 v2 v3 r_firsts r_reasons r_keptInFirst =>
    wp_X6_size e_size (fun r21_4 =>
      (r21_4 ≤ v3 →
        Q r_firsts r_reasons r_keptInFirst) ∧
      (¬ r21_4 ≤ v3 →
        wp_X5_bestStand h_rate s_days s_fars r_rest v1 v3 v2 (fun r31_5 =>
          vp_in v3 10 ∧
          (¬ r31_5 = 0 →
            wp_X5_chooseFirst_b64 h_rate e_size s_days s_fars s_goods r_rest Q (fun y0 y1 y2 y3 y4 y5 => wp_X5_chooseFirst_h16 h_rate e_size s_days s_fars s_goods r_rest Q  n y0 y1 y2 y3 y4 y5) (0 : Int32) v3 v1 v2 v3 r31_5 (upd r_firsts v3.toNatClampNeg r31_5) r_reasons r_keptInFirst) ∧
          (r31_5 = 0 →
            wp_X5_reasonBehind h_rate s_days s_fars v1 v3 (fun r57_6 =>
              wp_X5_chooseFirst_b64 h_rate e_size s_days s_fars s_goods r_rest Q (fun y0 y1 y2 y3 y4 y5 => wp_X5_chooseFirst_h16 h_rate e_size s_days s_fars s_goods r_rest Q  n y0 y1 y2 y3 y4 y5) r57_6 v3 v1 v2 v3 r31_5 (upd r_firsts v3.toNatClampNeg r31_5) r_reasons r_keptInFirst)))))
def wp_X5_chooseFirst (h_rate : Int32) (e_size : Int32) (s_days : Nat → Int32) (s_fars : Nat → Int32) (s_goods : Nat → Int32) (r_rest : Nat → Int32) (r_firsts : Nat → Int32) (r_reasons : Nat → Int32) (r_keptInFirst : Int32) (Q : (Nat → Int32) → (Nat → Int32) → Int32 → Prop) : Prop :=
  ∀ x8_7 : Int32, x8_7 = (r_rest (0 : Int32).toNatClampNeg) →
  ∃ n16, wp_X5_chooseFirst_h16 h_rate e_size s_days s_fars s_goods r_rest Q  n16 (0 : Int32) x8_7 (0 : Int32) r_firsts r_reasons (0 : Int32)
def wp_X5_bestGood (r_rest : Nat → Int32) (Q : Int32 → Prop) : Prop :=
  Q (r_rest (0 : Int32).toNatClampNeg)
def wp_X5_goodAhead_h4 (r_until : Nat → Int32) (Q : Int32 → Prop) : Nat → Int32 → Int32 → Int32 → Prop
  | 0 => fun _ _ _ => False
  | n + 1 => fun v1 v2 v3 =>
    wp_X6_standOf v1 (0 : Int32) (fun r7_1 =>
      (r7_1 ≤ v3 →
        Q v2) ∧
      (¬ r7_1 ≤ v3 →
        vp_in v3 88 ∧
        ∀ x20_2 : Int32, x20_2 = (if v2 < (r_until v3.toNatClampNeg) then (r_until v3.toNatClampNeg) else v2) →
        ∀ x24_3 : Int32, x24_3 = v3 + 1 →
        wp_X5_goodAhead_h4 r_until Q  n v1 x20_2 x24_3))
def wp_X5_goodAhead (r_until : Nat → Int32) (p1 : Int32) (Q : Int32 → Prop) : Prop :=
  ∃ n4, wp_X5_goodAhead_h4 r_until Q  n4 p1 (0 : Int32) (0 : Int32)
def wp_X5_goodFrom_h18 (e_size : Int32) (r_rest : Nat → Int32) (Q : Int32 → Prop) (K4 : Int32 → Int32 → Prop) : Nat → Int32 → Int32 → Int32 → Prop
  | 0 => fun _ _ _ => False
  | n + 1 => fun v2 v3 v4 =>
    ((2 : Int32) ≤ v4 →
      ∀ x46_1 : Int32, x46_1 = v3 + 1 →
      K4 v2 x46_1) ∧
    (¬ (2 : Int32) ≤ v4 →
      wp_X6_standOf v3 v4 (fun r32_2 =>
        vp_in r32_2 88 ∧
        ∀ x36_3 : Int32, x36_3 = (if v2 < (r_rest r32_2.toNatClampNeg) then (r_rest r32_2.toNatClampNeg) else v2) →
        ∀ x40_4 : Int32, x40_4 = v4 + 1 →
        wp_X5_goodFrom_h18 e_size r_rest Q K4 n x36_3 v3 x40_4))
def wp_X5_goodFrom_h4 (e_size : Int32) (r_rest : Nat → Int32) (Q : Int32 → Prop) : Nat → Int32 → Int32 → Prop
  | 0 => fun _ _ => False
  | n + 1 => fun v2 v3 =>
    wp_X6_size e_size (fun r9_5 =>
      (r9_5 ≤ v3 →
        Q v2) ∧
      (¬ r9_5 ≤ v3 →
        ∃ n18, wp_X5_goodFrom_h18 e_size r_rest Q (fun y0 y1 => wp_X5_goodFrom_h4 e_size r_rest Q  n y0 y1) n18 v2 v3 (0 : Int32)))
def wp_X5_goodFrom (e_size : Int32) (r_rest : Nat → Int32) (p1 : Int32) (Q : Int32 → Prop) : Prop :=
  ∃ n4, wp_X5_goodFrom_h4 e_size r_rest Q  n4 (0 : Int32) p1
def wp_X5_findSwap_b59 (e_size : Int32) (r_until : Nat → Int32) (r_rest : Nat → Int32) (Q : Int32 → Int32 → Prop) (K19 : Int32 → Int32 → Int32 → Int32 → Prop) (v1 : Int32) (v2 : Int32) (r_swapAt : Int32) (r_swapGood : Int32) : Prop :=
  ∀ x59_1 : Int32, x59_1 = v2 + 1 →
  K19 v1 x59_1 r_swapAt r_swapGood
def wp_X5_findSwap_h19 (e_size : Int32) (r_until : Nat → Int32) (r_rest : Nat → Int32) (Q : Int32 → Int32 → Prop) : Nat → Int32 → Int32 → Int32 → Int32 → Prop
  | 0 => fun _ _ _ _ => False
  | n + 1 => fun v1 v2 r_swapAt r_swapGood =>
    wp_X6_size e_size (fun r24_2 =>
      (r24_2 ≤ v2 →
        Q r_swapAt r_swapGood) ∧
      (¬ r24_2 ≤ v2 →
        wp_X5_goodAhead r_until v2 (fun r32_3 =>
          wp_X5_goodFrom e_size r_rest v2 (fun r37_4 =>
            ∀ x41_5 : Int32, x41_5 = (r32_3 + r37_4) →
            (x41_5 ≤ v1 →
              wp_X5_findSwap_b59 e_size r_until r_rest Q (fun y0 y1 y2 y3 => wp_X5_findSwap_h19 e_size r_until r_rest Q  n y0 y1 y2 y3) v1 v2 r_swapAt r_swapGood) ∧
            (¬ x41_5 ≤ v1 →
              wp_X5_findSwap_b59 e_size r_until r_rest Q (fun y0 y1 y2 y3 => wp_X5_findSwap_h19 e_size r_until r_rest Q  n y0 y1 y2 y3) x41_5 v2 v2 x41_5)))))
def wp_X5_findSwap (e_size : Int32) (r_until : Nat → Int32) (r_rest : Nat → Int32) (r_swapAt : Int32) (r_swapGood : Int32) (Q : Int32 → Int32 → Prop) : Prop :=
  wp_X5_bestGood r_rest (fun r13_6 =>
    ∃ n19, wp_X5_findSwap_h19 e_size r_until r_rest Q  n19 r13_6 (1 : Int32) (-9 : Int32) (-9 : Int32))
def wp_X5_solve (h_rate : Int32) (h_wrap : Int32) (e_days : Nat → Int32) (e_firsts : Nat → Int32) (e_seconds : Nat → Int32) (e_size : Int32) (s_days : Nat → Int32) (s_fars : Nat → Int32) (s_goods : Nat → Int32) (r_until : Nat → Int32) (r_rest : Nat → Int32) (r_ways : Nat → Int64) (r_inEach : Nat → Int32) (r_inAny : Nat → Int32) (r_firsts : Nat → Int32) (r_reasons : Nat → Int32) (r_keptInFirst : Int32) (r_swapAt : Int32) (r_swapGood : Int32) (Q : (Nat → Int32) → (Nat → Int32) → (Nat → Int32) → (Nat → Int32) → (Nat → Int32) → (Nat → Int64) → (Nat → Int32) → (Nat → Int32) → (Nat → Int32) → (Nat → Int32) → Int32 → Int32 → Int32 → Prop) : Prop :=
  wp_X6_measure h_wrap e_days e_firsts e_seconds e_size s_days s_fars s_goods (fun s_days_4_1 s_fars_4_2 s_goods_4_3 =>
    wp_X5_goForward h_rate e_size s_days_4_1 s_fars_4_2 s_goods_4_3 r_until (fun r_until_8_4 =>
      wp_X5_goBackward h_rate e_size s_days_4_1 s_fars_4_2 s_goods_4_3 r_until_8_4 r_rest r_ways r_inEach r_inAny (fun r_rest_12_5 r_ways_12_6 r_inEach_12_7 r_inAny_12_8 =>
        wp_X5_chooseFirst h_rate e_size s_days_4_1 s_fars_4_2 s_goods_4_3 r_rest_12_5 r_firsts r_reasons r_keptInFirst (fun r_firsts_16_9 r_reasons_16_10 r_keptInFirst_16_11 =>
          wp_X5_findSwap e_size r_until_8_4 r_rest_12_5 r_swapAt r_swapGood (fun r_swapAt_20_12 r_swapGood_20_13 =>
            Q s_days_4_1 s_fars_4_2 s_goods_4_3 r_until_8_4 r_rest_12_5 r_ways_12_6 r_inEach_12_7 r_inAny_12_8 r_firsts_16_9 r_reasons_16_10 r_keptInFirst_16_11 r_swapAt_20_12 r_swapGood_20_13)))))
def wp_X2_forget (l_known : Int32) (Q : Int32 → Prop) : Prop :=
  Q (0 : Int32)
def wp_X8_repairAnew (h_rate : Int32) (h_wrap : Int32) (e_days : Nat → Int32) (e_firsts : Nat → Int32) (e_seconds : Nat → Int32) (e_size : Int32) (s_days : Nat → Int32) (s_fars : Nat → Int32) (s_goods : Nat → Int32) (r_until : Nat → Int32) (r_rest : Nat → Int32) (r_ways : Nat → Int64) (r_inEach : Nat → Int32) (r_inAny : Nat → Int32) (r_firsts : Nat → Int32) (r_reasons : Nat → Int32) (r_keptInFirst : Int32) (r_swapAt : Int32) (r_swapGood : Int32) (l_known : Int32) (Q : (Nat → Int32) → (Nat → Int32) → (Nat → Int32) → (Nat → Int32) → (Nat → Int32) → (Nat → Int64) → (Nat → Int32) → (Nat → Int32) → (Nat → Int32) → (Nat → Int32) → Int32 → Int32 → Int32 → Int32 → Prop) : Prop :=
  wp_X5_solve h_rate h_wrap e_days e_firsts e_seconds e_size s_days s_fars s_goods r_until r_rest r_ways r_inEach r_inAny r_firsts r_reasons r_keptInFirst r_swapAt r_swapGood (fun s_days_4_1 s_fars_4_2 s_goods_4_3 r_until_4_4 r_rest_4_5 r_ways_4_6 r_inEach_4_7 r_inAny_4_8 r_firsts_4_9 r_reasons_4_10 r_keptInFirst_4_11 r_swapAt_4_12 r_swapGood_4_13 =>
    wp_X2_forget l_known (fun l_known_11_14 =>
      Q s_days_4_1 s_fars_4_2 s_goods_4_3 r_until_4_4 r_rest_4_5 r_ways_4_6 r_inEach_4_7 r_inAny_4_8 r_firsts_4_9 r_reasons_4_10 r_keptInFirst_4_11 r_swapAt_4_12 r_swapGood_4_13 l_known_11_14))
def wp_X4_mostFrom (p_most : Nat → Int32) (p1 : Int32) (p2 : Int32) (Q : Int32 → Prop) : Prop :=
  vp_in ((p1 * (8 : Int32)) + p2) 56 ∧
  Q (p_most ((p1 * (8 : Int32)) + p2).toNatClampNeg)
def wp_X4_isLink_b18 (ce_firsts : Nat → Int32) (Q : Int32 → Prop) (k0 : Int32) : Prop :=
  (k0 = 0 ∨ k0 = 1) ∧
  Q k0
def wp_X4_isLink (ce_firsts : Nat → Int32) (p1 : Int32) (p2 : Int32) (Q : Int32 → Prop) : Prop :=
  vp_in p1 6 ∧
  (¬ (ce_firsts p1.toNatClampNeg) = p2 →
    wp_X4_isLink_b18 ce_firsts Q  (0 : Int32)) ∧
  ((ce_firsts p1.toNatClampNeg) = p2 →
    wp_X4_isLink_b18 ce_firsts Q  (1 : Int32))
def wp_X4_withLink (p_most : Nat → Int32) (ce_seconds : Nat → Int32) (p1 : Int32) (Q : Int32 → Prop) : Prop :=
  vp_in p1 6 ∧
  wp_X4_mostFrom p_most (p1 + (1 : Int32)) (ce_seconds p1.toNatClampNeg) (fun r14_1 =>
    Q ((1 : Int32) + r14_1))
def wp_X4_countBackward_b71 (ce_firsts : Nat → Int32) (ce_seconds : Nat → Int32) (ce_size : Int32) (Q : (Nat → Int32) → Prop) (K18 : Int32 → (Nat → Int32) → Prop) (K24 : Int32 → Int32 → (Nat → Int32) → Prop) (k0 : Int32) (k1 : Int32) (v1 : Int32) (v2 : Int32) (p_most : Nat → Int32) : Prop :=
  vp_in k1 56 ∧
  ∀ x72_1 : Int32, x72_1 = v2 + 1 →
  K24 v1 x72_1 (upd p_most k1.toNatClampNeg k0)
def wp_X4_countBackward_h24 (ce_firsts : Nat → Int32) (ce_seconds : Nat → Int32) (ce_size : Int32) (Q : (Nat → Int32) → Prop) (K18 : Int32 → (Nat → Int32) → Prop) : Nat → Int32 → Int32 → (Nat → Int32) → Prop
  | 0 => fun _ _ _ => False
  | n + 1 => fun v1 v2 p_most =>
    ((8 : Int32) ≤ v2 →
      ∀ x78_2 : Int32, x78_2 = v1 + (-1) →
      K18 x78_2 p_most) ∧
    (¬ (8 : Int32) ≤ v2 →
      wp_X4_mostFrom p_most (v1 + (1 : Int32)) v2 (fun r35_3 =>
        wp_X4_isLink ce_firsts v1 v2 (fun r52_4 =>
          (r52_4 = 0 →
            wp_X4_countBackward_b71 ce_firsts ce_seconds ce_size Q K18 (fun y0 y1 y2 => wp_X4_countBackward_h24 ce_firsts ce_seconds ce_size Q K18 n y0 y1 y2) r35_3 ((v1 * (8 : Int32)) + v2) v1 v2 p_most) ∧
          (¬ r52_4 = 0 →
            wp_X4_withLink p_most ce_seconds v1 (fun r61_5 =>
              ∀ x64_6 : Int32, x64_6 = (if r35_3 < r61_5 then r61_5 else r35_3) →
              wp_X4_countBackward_b71 ce_firsts ce_seconds ce_size Q K18 (fun y0 y1 y2 => wp_X4_countBackward_h24 ce_firsts ce_seconds ce_size Q K18 n y0 y1 y2) x64_6 ((v1 * (8 : Int32)) + v2) v1 v2 p_most)))))
def wp_X4_countBackward_h18 (ce_firsts : Nat → Int32) (ce_seconds : Nat → Int32) (ce_size : Int32) (Q : (Nat → Int32) → Prop) : Nat → Int32 → (Nat → Int32) → Prop
  | 0 => fun _ _ => False
  | n + 1 => fun v1 p_most =>
    (v1 < 0 →
      Q p_most) ∧
    (¬ v1 < 0 →
      ∃ n24, wp_X4_countBackward_h24 ce_firsts ce_seconds ce_size Q (fun y0 y1 => wp_X4_countBackward_h18 ce_firsts ce_seconds ce_size Q  n y0 y1) n24 v1 (0 : Int32) p_most)
def wp_X4_countBackward (ce_firsts : Nat → Int32) (ce_seconds : Nat → Int32) (ce_size : Int32) (p_most : Nat → Int32) (Q : (Nat → Int32) → Prop) : Prop :=
  wp_J7_fill_53178 56 p_most (0 : Int32) (fun f_row_5_7 =>
    ∀ x17_8 : Int32, x17_8 = (ce_size - (1 : Int32)) →
    ∃ n18, wp_X4_countBackward_h18 ce_firsts ce_seconds ce_size Q  n18 x17_8 f_row_5_7)
def wp_X4_follow_b92 (p_start : Int32) (ce_firsts : Nat → Int32) (ce_seconds : Nat → Int32) (ce_size : Int32) (Q : (Nat → Int32) → (Nat → Int32) → Int32 → Prop) (K16 : Int32 → Int32 → (Nat → Int32) → (Nat → Int32) → Int32 → Prop) (v1 : Int32) (v2 : Int32) (p_held : Nat → Int32) (p_most : Nat → Int32) (p_heldInAll : Int32) : Prop :=
  ∀ x92_1 : Int32, x92_1 = v2 + 1 →
  K16 v1 x92_1 p_held p_most p_heldInAll
def wp_X4_follow_b62 (p_start : Int32) (ce_firsts : Nat → Int32) (ce_seconds : Nat → Int32) (ce_size : Int32) (Q : (Nat → Int32) → (Nat → Int32) → Int32 → Prop) (K16 : Int32 → Int32 → (Nat → Int32) → (Nat → Int32) → Int32 → Prop) (k0 : Int32) (k1 : Int32) (v1 : Int32) (v2 : Int32) (p_held : Nat → Int32) (p_most : Nat → Int32) (p_heldInAll : Int32) : Prop :=
  vp_in k1 6 ∧
  vp_in v2 6 ∧
  (((upd p_held k1.toNatClampNeg (vp_nar .boolean k0)) v2.toNatClampNeg) = 0 →
    wp_X4_follow_b92 p_start ce_firsts ce_seconds ce_size Q K16 v1 v2 (upd p_held k1.toNatClampNeg (vp_nar .boolean k0)) p_most p_heldInAll) ∧
  (¬ ((upd p_held k1.toNatClampNeg (vp_nar .boolean k0)) v2.toNatClampNeg) = 0 →
    vp_in v2 6 ∧
    ∀ x81_2 : Int32, x81_2 = (ce_seconds v2.toNatClampNeg) →
    ∀ x89_3 : Int32, x89_3 = (p_heldInAll + (1 : Int32)) →
    wp_X4_follow_b92 p_start ce_firsts ce_seconds ce_size Q K16 x81_2 v2 (upd p_held k1.toNatClampNeg (vp_nar .boolean k0)) p_most x89_3)
def wp_X4_follow_b61 (p_start : Int32) (ce_firsts : Nat → Int32) (ce_seconds : Nat → Int32) (ce_size : Int32) (Q : (Nat → Int32) → (Nat → Int32) → Int32 → Prop) (K16 : Int32 → Int32 → (Nat → Int32) → (Nat → Int32) → Int32 → Prop) (k0 : Int32) (v1 : Int32) (v2 : Int32) (p_held : Nat → Int32) (p_most : Nat → Int32) (p_heldInAll : Int32) : Prop :=
  wp_X4_follow_b62 p_start ce_firsts ce_seconds ce_size Q K16 (0 : Int32) k0 v1 v2 p_held p_most p_heldInAll
def wp_X4_follow_h16 (p_start : Int32) (ce_firsts : Nat → Int32) (ce_seconds : Nat → Int32) (ce_size : Int32) (Q : (Nat → Int32) → (Nat → Int32) → Int32 → Prop) : Nat → Int32 → Int32 → (Nat → Int32) → (Nat → Int32) → Int32 → Prop
  | 0 => fun _ _ _ _ _ => False
  | n + 1 => fun v1 v2 p_held p_most p_heldInAll =>
    (ce_size ≤ v2 →
      Q p_held p_most p_heldInAll) ∧
    (¬ ce_size ≤ v2 →
      wp_X4_isLink ce_firsts v2 v1 (fun r35_4 =>
        (r35_4 = 0 →
          wp_X4_follow_b61 p_start ce_firsts ce_seconds ce_size Q (fun y0 y1 y2 y3 y4 => wp_X4_follow_h16 p_start ce_firsts ce_seconds ce_size Q  n y0 y1 y2 y3 y4) v2 v1 v2 p_held p_most p_heldInAll) ∧
        (¬ r35_4 = 0 →
          wp_X4_withLink p_most ce_seconds v2 (fun r43_5 =>
            wp_X4_mostFrom p_most (v2 + (1 : Int32)) v1 (fun r51_6 =>
              (r43_5 < r51_6 →
                wp_X4_follow_b61 p_start ce_firsts ce_seconds ce_size Q (fun y0 y1 y2 y3 y4 => wp_X4_follow_h16 p_start ce_firsts ce_seconds ce_size Q  n y0 y1 y2 y3 y4) v2 v1 v2 p_held p_most p_heldInAll) ∧
              (¬ r43_5 < r51_6 →
                wp_X4_follow_b62 p_start ce_firsts ce_seconds ce_size Q (fun y0 y1 y2 y3 y4 => wp_X4_follow_h16 p_start ce_firsts ce_seconds ce_size Q  n y0 y1 y2 y3 y4) (1 : Int32) v2 v1 v2 p_held p_most p_heldInAll))))))
def wp_X4_follow (p_start : Int32) (ce_firsts : Nat → Int32) (ce_seconds : Nat → Int32) (ce_size : Int32) (p_held : Nat → Int32) (p_most : Nat → Int32) (p_heldInAll : Int32) (Q : (Nat → Int32) → (Nat → Int32) → Int32 → Prop) : Prop :=
  wp_X4_countBackward ce_firsts ce_seconds ce_size p_most (fun p_most_1_7 =>
    ∃ n16, wp_X4_follow_h16 p_start ce_firsts ce_seconds ce_size Q  n16 p_start (0 : Int32) p_held p_most_1_7 (0 : Int32))
def wp_X9_begins_h2 (Q : (Nat → Int32) → Int32 → Int32 → Int32 → Prop) : Nat → Int32 → (Nat → Int32) → Int32 → Int32 → Int32 → Prop
  | 0 => fun _ _ _ _ _ => False
  | n + 1 => fun v1 m_read m_readChanges m_readStart m_readOnce =>
    ((33 : Int32) ≤ v1 →
      Q (upd m_read (1 : Int32).toNatClampNeg (20 : Int32)) (0 : Int32) (0 : Int32) (0 : Int32)) ∧
    (¬ (33 : Int32) ≤ v1 →
      vp_in v1 33 ∧
      ∀ x15_1 : Int32, x15_1 = v1 + 1 →
      wp_X9_begins_h2 Q  n x15_1 (upd m_read v1.toNatClampNeg (0 : Int32)) m_readChanges m_readStart m_readOnce)
def wp_X9_begins (m_read : Nat → Int32) (m_readChanges : Int32) (m_readStart : Int32) (m_readOnce : Int32) (Q : (Nat → Int32) → Int32 → Int32 → Int32 → Prop) : Prop :=
  ∃ n2, wp_X9_begins_h2 Q  n2 (0 : Int32) m_read m_readChanges m_readStart m_readOnce
def wp_X9_tellsAll_h44 (m_read : Nat → Int32) (m_readChanges : Int32) (m_readStart : Int32) (m_readDays : Nat → Int32) (m_readWas : Nat → Int32) (m_readThen : Nat → Int32) (Q : (Nat → Int32) → Int32 → Int32 → (Nat → Int32) → (Nat → Int32) → (Nat → Int32) → Int32 → (Nat → Int32) → Int32 → Prop) : Nat → Int32 → (Nat → Int32) → Int32 → Int32 → (Nat → Int32) → (Nat → Int32) → (Nat → Int32) → Int32 → (Nat → Int32) → Int32 → Prop
  | 0 => fun _ _ _ _ _ _ _ _ _ _ => False
  | n + 1 => fun v1 m_now m_changeMany m_start m_changeDays m_was m_then m_undoMany m_isKept m_isKnown =>
    ((6 : Int32) ≤ v1 →
      Q m_now m_changeMany m_start m_changeDays m_was m_then (0 : Int32) (upd (upd m_isKept (0 : Int32).toNatClampNeg (vp_nar .boolean (0 : Int32))) (1 : Int32).toNatClampNeg (vp_nar .boolean (0 : Int32))) (0 : Int32)) ∧
    (¬ (6 : Int32) ≤ v1 →
      vp_in v1 6 ∧
      ∀ x61_1 : Int32, x61_1 = (m_readDays v1.toNatClampNeg) →
      vp_in v1 6 ∧
      vp_in v1 6 ∧
      ∀ x73_2 : Int32, x73_2 = (m_readWas v1.toNatClampNeg) →
      vp_in v1 6 ∧
      vp_in v1 6 ∧
      ∀ x85_3 : Int32, x85_3 = (m_readThen v1.toNatClampNeg) →
      vp_in v1 6 ∧
      ∀ x86_4 : Int32, x86_4 = v1 + 1 →
      wp_X9_tellsAll_h44 m_read m_readChanges m_readStart m_readDays m_readWas m_readThen Q  n x86_4 m_now m_changeMany m_start (upd m_changeDays v1.toNatClampNeg x61_1) (upd m_was v1.toNatClampNeg x73_2) (upd m_then v1.toNatClampNeg x85_3) m_undoMany m_isKept m_isKnown)
def wp_X9_tellsAll_h2 (m_read : Nat → Int32) (m_readChanges : Int32) (m_readStart : Int32) (m_readDays : Nat → Int32) (m_readWas : Nat → Int32) (m_readThen : Nat → Int32) (Q : (Nat → Int32) → Int32 → Int32 → (Nat → Int32) → (Nat → Int32) → (Nat → Int32) → Int32 → (Nat → Int32) → Int32 → Prop) : Nat → Int32 → (Nat → Int32) → Int32 → Int32 → (Nat → Int32) → (Nat → Int32) → (Nat → Int32) → Int32 → (Nat → Int32) → Int32 → Prop
  | 0 => fun _ _ _ _ _ _ _ _ _ _ => False
  | n + 1 => fun v1 m_now m_changeMany m_start m_changeDays m_was m_then m_undoMany m_isKept m_isKnown =>
    ((33 : Int32) ≤ v1 →
      ∃ n44, wp_X9_tellsAll_h44 m_read m_readChanges m_readStart m_readDays m_readWas m_readThen Q  n44 (0 : Int32) m_now m_readChanges m_readStart m_changeDays m_was m_then m_undoMany m_isKept m_isKnown) ∧
    (¬ (33 : Int32) ≤ v1 →
      vp_in v1 33 ∧
      ∀ x19_5 : Int32, x19_5 = (m_read v1.toNatClampNeg) →
      vp_in v1 33 ∧
      ∀ x20_6 : Int32, x20_6 = v1 + 1 →
      wp_X9_tellsAll_h2 m_read m_readChanges m_readStart m_readDays m_readWas m_readThen Q  n x20_6 (upd m_now v1.toNatClampNeg x19_5) m_changeMany m_start m_changeDays m_was m_then m_undoMany m_isKept m_isKnown)
def wp_X9_tellsAll (m_read : Nat → Int32) (m_readChanges : Int32) (m_readStart : Int32) (m_readDays : Nat → Int32) (m_readWas : Nat → Int32) (m_readThen : Nat → Int32) (m_now : Nat → Int32) (m_changeMany : Int32) (m_start : Int32) (m_changeDays : Nat → Int32) (m_was : Nat → Int32) (m_then : Nat → Int32) (m_undoMany : Int32) (m_isKept : Nat → Int32) (m_isKnown : Int32) (Q : (Nat → Int32) → Int32 → Int32 → (Nat → Int32) → (Nat → Int32) → (Nat → Int32) → Int32 → (Nat → Int32) → Int32 → Prop) : Prop :=
  ∃ n2, wp_X9_tellsAll_h2 m_read m_readChanges m_readStart m_readDays m_readWas m_readThen Q  n2 (0 : Int32) m_now m_changeMany m_start m_changeDays m_was m_then m_undoMany m_isKept m_isKnown
def wp_X7_take (t_letters : Nat → Int32) (t_length : Int32) (p1 : Int32) (Q : Int32 → (Nat → Int32) → Int32 → Prop) : Prop :=
  (t_length < (120 : Int32) →
    vp_in t_length 120 ∧
    ∀ x29_1 : Int32, x29_1 = (t_length + (1 : Int32)) →
    Q x29_1 (upd t_letters t_length.toNatClampNeg p1) x29_1) ∧
  (¬ t_length < (120 : Int32) →
    Q (-3 : Int32) t_letters t_length)
def wp_X8_type_b11 (Q : Int32 → (Nat → Int32) → Int32 → Prop) (t_letters : Nat → Int32) (t_length : Int32) : Prop :=
  Q (-1 : Int32) t_letters t_length
def wp_X8_type (t_letters : Nat → Int32) (t_length : Int32) (p1 : Int32) (Q : Int32 → (Nat → Int32) → Int32 → Prop) : Prop :=
  (p1 < 0 →
    wp_X8_type_b11 Q  t_letters t_length) ∧
  (¬ p1 < 0 →
    (p1 ≤ (255 : Int32) →
      wp_X7_take t_letters t_length p1 (fun r18_3 t_letters_18_1 t_length_18_2 =>
        Q r18_3 t_letters_18_1 t_length_18_2)) ∧
    (¬ p1 ≤ (255 : Int32) →
      wp_X8_type_b11 Q  t_letters t_length))
def wp_X9_in_b15 (Q : Int32 → Prop) (k0 : Int32) : Prop :=
  (k0 = 0 ∨ k0 = 1) ∧
  Q k0
def wp_X9_in_b14 (Q : Int32 → Prop)  : Prop :=
  wp_X9_in_b15 Q  (0 : Int32)
def wp_X9_in (p0 : Int32) (p1 : Int32) (p2 : Int32) (Q : Int32 → Prop) : Prop :=
  (p0 < p1 →
    wp_X9_in_b14 Q  ) ∧
  (¬ p0 < p1 →
    (p2 < p0 →
      wp_X9_in_b14 Q  ) ∧
    (¬ p2 < p0 →
      wp_X9_in_b15 Q  (1 : Int32)))
def wp_X9_type (m_letterMany : Int32) (m_text : Nat → Int32) (p1 : Int32) (Q : Int32 → Int32 → (Nat → Int32) → Prop) : Prop :=
  wp_X9_in p1 (0 : Int32) (255 : Int32) (fun r5_1 =>
    (¬ r5_1 = 0 →
      (¬ m_letterMany = (120 : Int32) →
        vp_in m_letterMany 120 ∧
        ∀ x42_2 : Int32, x42_2 = (m_letterMany + (1 : Int32)) →
        Q x42_2 x42_2 (upd m_text m_letterMany.toNatClampNeg p1)) ∧
      (m_letterMany = (120 : Int32) →
        Q (-3 : Int32) m_letterMany m_text)) ∧
    (r5_1 = 0 →
      Q (-1 : Int32) m_letterMany m_text))
def wp_X7_empty (t_length : Int32) (Q : Int32 → Int32 → Prop) : Prop :=
  Q t_length (0 : Int32)
def wp_X8_clear (t_length : Int32) (Q : Int32 → Int32 → Prop) : Prop :=
  wp_X7_empty t_length (fun r4_2 t_length_4_1 =>
    Q r4_2 t_length_4_1)
def wp_X9_clear (m_letterMany : Int32) (Q : Int32 → Int32 → Prop) : Prop :=
  Q m_letterMany (0 : Int32)
def wp_X1_reset (h_rate : Int32) (h_wrap : Int32) (e_size : Int32) (Q : Int32 → Int32 → Int32 → Prop) : Prop :=
  Q (20 : Int32) (0 : Int32) (0 : Int32)
def wp_X4_reset (p_start : Int32) (ce_size : Int32) (Q : Int32 → Int32 → Prop) : Prop :=
  Q (0 : Int32) (0 : Int32)
def wp_X7_begin (t_at : Int32) (t_rateTold : Int32) (t_wrapTold : Int32) (t_startTold : Int32) (th_rate : Int32) (th_wrap : Int32) (te_size : Int32) (tp_start : Int32) (tce_size : Int32) (Q : Int32 → Int32 → Int32 → Int32 → Int32 → Int32 → Int32 → Int32 → Int32 → Prop) : Prop :=
  wp_X1_reset th_rate th_wrap te_size (fun h_rate_4_1 h_wrap_4_2 e_size_4_3 =>
    wp_X4_reset tp_start tce_size (fun p_start_11_4 ce_size_11_5 =>
      Q (0 : Int32) (0 : Int32) (0 : Int32) (0 : Int32) h_rate_4_1 h_wrap_4_2 e_size_4_3 p_start_11_4 ce_size_11_5))
def wp_X7_isDigit_b17 (Q : Int32 → Prop) (k0 : Int32) : Prop :=
  (k0 = 0 ∨ k0 = 1) ∧
  Q k0
def wp_X7_isDigit_b16 (Q : Int32 → Prop)  : Prop :=
  wp_X7_isDigit_b17 Q  (0 : Int32)
def wp_X7_isDigit (p0 : Int32) (Q : Int32 → Prop) : Prop :=
  (p0 < (48 : Int32) →
    wp_X7_isDigit_b16 Q  ) ∧
  (¬ p0 < (48 : Int32) →
    ((57 : Int32) < p0 →
      wp_X7_isDigit_b16 Q  ) ∧
    (¬ (57 : Int32) < p0 →
      wp_X7_isDigit_b17 Q  (1 : Int32)))
def wp_X7_takeNumber_b129 (t_letters : Nat → Int32) (t_length : Int32) (t_place : Int32) (Q : Int32 → Int32 → Int32 → Prop) (k0 : Int32) (t_at : Int32) (t_token : Int32) (t_number : Int32) : Prop :=
  Q t_at k0 t_number
def wp_X7_takeNumber_b122 (t_letters : Nat → Int32) (t_length : Int32) (t_place : Int32) (Q : Int32 → Int32 → Int32 → Prop) (t_at : Int32) (t_token : Int32) (t_number : Int32) : Prop :=
  wp_X7_takeNumber_b129 t_letters t_length t_place Q  (-3 : Int32) t_at t_token t_number
def wp_X7_takeNumber_b106 (t_letters : Nat → Int32) (t_length : Int32) (t_place : Int32) (Q : Int32 → Int32 → Int32 → Prop) (k0 : Int32) (t_at : Int32) (t_token : Int32) (t_number : Int32) : Prop :=
  (¬ k0 = 0 →
    wp_X7_takeNumber_b122 t_letters t_length t_place Q  t_at t_token t_number) ∧
  (k0 = 0 →
    (t_number ≤ (9999 : Int32) →
      wp_X7_takeNumber_b129 t_letters t_length t_place Q  (-2 : Int32) t_at t_token t_number) ∧
    (¬ t_number ≤ (9999 : Int32) →
      wp_X7_takeNumber_b122 t_letters t_length t_place Q  t_at t_token t_number))
def wp_X7_takeNumber_b105 (t_letters : Nat → Int32) (t_length : Int32) (t_place : Int32) (Q : Int32 → Int32 → Int32 → Prop) (t_at : Int32) (t_token : Int32) (t_number : Int32) : Prop :=
  wp_X7_takeNumber_b106 t_letters t_length t_place Q  (0 : Int32) t_at t_token t_number
def wp_X7_takeNumber_b74 (t_letters : Nat → Int32) (t_length : Int32) (t_place : Int32) (Q : Int32 → Int32 → Int32 → Prop) (t_at : Int32) (t_token : Int32) (t_number : Int32) : Prop :=
  vp_in t_place 120 ∧
  (¬ (t_letters t_place.toNatClampNeg) = (48 : Int32) →
    wp_X7_takeNumber_b105 t_letters t_length t_place Q  t_at t_token t_number) ∧
  ((t_letters t_place.toNatClampNeg) = (48 : Int32) →
    ((t_at - t_place) ≤ (1 : Int32) →
      wp_X7_takeNumber_b105 t_letters t_length t_place Q  t_at t_token t_number) ∧
    (¬ (t_at - t_place) ≤ (1 : Int32) →
      wp_X7_takeNumber_b106 t_letters t_length t_place Q  (1 : Int32) t_at t_token t_number))
def wp_X7_takeNumber_h5 (t_letters : Nat → Int32) (t_length : Int32) (t_place : Int32) (Q : Int32 → Int32 → Int32 → Prop) : Nat → Int32 → Int32 → Int32 → Prop
  | 0 => fun _ _ _ => False
  | n + 1 => fun t_at t_token t_number =>
    (t_length ≤ t_at →
      wp_X7_takeNumber_b74 t_letters t_length t_place Q  t_at t_token t_number) ∧
    (¬ t_length ≤ t_at →
      vp_in t_at 120 ∧
      wp_X7_isDigit (t_letters t_at.toNatClampNeg) (fun r25_1 =>
        (r25_1 = 0 →
          wp_X7_takeNumber_b74 t_letters t_length t_place Q  t_at t_token t_number) ∧
        (¬ r25_1 = 0 →
          vp_in t_at 120 ∧
          ∀ x55_2 : Int32, x55_2 = (if (10000 : Int32) < (((t_number * (10 : Int32)) + (t_letters t_at.toNatClampNeg)) - (48 : Int32)) then (10000 : Int32) else (((t_number * (10 : Int32)) + (t_letters t_at.toNatClampNeg)) - (48 : Int32))) →
          ∀ x68_3 : Int32, x68_3 = (t_at + (1 : Int32)) →
          wp_X7_takeNumber_h5 t_letters t_length t_place Q  n x68_3 t_token x55_2)))
def wp_X7_takeNumber (t_letters : Nat → Int32) (t_length : Int32) (t_place : Int32) (t_at : Int32) (t_token : Int32) (t_number : Int32) (Q : Int32 → Int32 → Int32 → Prop) : Prop :=
  ∃ n5, wp_X7_takeNumber_h5 t_letters t_length t_place Q  n5 t_at t_token (0 : Int32)
def wp_X7_nextToken_b110 (t_letters : Nat → Int32) (t_length : Int32) (Q : Int32 → Int32 → Int32 → Int32 → Prop) (t_at : Int32) (t_place : Int32) (t_token : Int32) (t_number : Int32) : Prop :=
  Q t_at t_place t_token t_number
def wp_X7_nextToken_b38 (t_letters : Nat → Int32) (t_length : Int32) (Q : Int32 → Int32 → Int32 → Int32 → Prop) (t_at : Int32) (t_place : Int32) (t_token : Int32) (t_number : Int32) : Prop :=
  (t_at < t_length →
    vp_in t_at 120 ∧
    wp_X7_isDigit (t_letters t_at.toNatClampNeg) (fun r74_1 =>
      (r74_1 = 0 →
        vp_in t_at 120 ∧
        ∀ x97_2 : Int32, x97_2 = (t_letters t_at.toNatClampNeg) →
        ∀ x107_3 : Int32, x107_3 = (t_at + (1 : Int32)) →
        wp_X7_nextToken_b110 t_letters t_length Q  x107_3 t_at x97_2 t_number) ∧
      (¬ r74_1 = 0 →
        wp_X7_takeNumber t_letters t_length t_at t_at t_token t_number (fun t_at_81_4 t_token_81_5 t_number_81_6 =>
          wp_X7_nextToken_b110 t_letters t_length Q  t_at_81_4 t_at t_token_81_5 t_number_81_6)))) ∧
  (¬ t_at < t_length →
    wp_X7_nextToken_b110 t_letters t_length Q  t_at t_at (-1 : Int32) t_number)
def wp_X7_nextToken_h0 (t_letters : Nat → Int32) (t_length : Int32) (Q : Int32 → Int32 → Int32 → Int32 → Prop) : Nat → Int32 → Int32 → Int32 → Int32 → Prop
  | 0 => fun _ _ _ _ => False
  | n + 1 => fun t_at t_place t_token t_number =>
    (t_length ≤ t_at →
      wp_X7_nextToken_b38 t_letters t_length Q  t_at t_place t_token t_number) ∧
    (¬ t_length ≤ t_at →
      vp_in t_at 120 ∧
      (¬ (t_letters t_at.toNatClampNeg) = (32 : Int32) →
        wp_X7_nextToken_b38 t_letters t_length Q  t_at t_place t_token t_number) ∧
      ((t_letters t_at.toNatClampNeg) = (32 : Int32) →
        ∀ x32_7 : Int32, x32_7 = (t_at + (1 : Int32)) →
        wp_X7_nextToken_h0 t_letters t_length Q  n x32_7 t_place t_token t_number))
def wp_X7_nextToken (t_letters : Nat → Int32) (t_length : Int32) (t_at : Int32) (t_place : Int32) (t_token : Int32) (t_number : Int32) (Q : Int32 → Int32 → Int32 → Int32 → Prop) : Prop :=
  ∃ n0, wp_X7_nextToken_h0 t_letters t_length Q  n0 t_at t_place t_token t_number
def wp_X0_isFull_b17 (N : Nat) (e_size : Int32) (Q : Int32 → Prop) (k0 : Int32) : Prop :=
  (k0 = 0 ∨ k0 = 1) ∧
  Q k0
def wp_X0_isFull (N : Nat) (e_size : Int32) (Q : Int32 → Prop) : Prop :=
  (e_size < (nI N) →
    wp_X0_isFull_b17 N e_size Q  (0 : Int32)) ∧
  (¬ e_size < (nI N) →
    wp_X0_isFull_b17 N e_size Q  (1 : Int32))
def wp_X8_isWithin_b15 (Q : Int32 → Prop) (k0 : Int32) : Prop :=
  (k0 = 0 ∨ k0 = 1) ∧
  Q k0
def wp_X8_isWithin_b14 (Q : Int32 → Prop)  : Prop :=
  wp_X8_isWithin_b15 Q  (0 : Int32)
def wp_X8_isWithin (p0 : Int32) (p1 : Int32) (p2 : Int32) (Q : Int32 → Prop) : Prop :=
  (p0 < p1 →
    wp_X8_isWithin_b14 Q  ) ∧
  (¬ p0 < p1 →
    (p2 < p0 →
      wp_X8_isWithin_b14 Q  ) ∧
    (¬ p2 < p0 →
      wp_X8_isWithin_b15 Q  (1 : Int32)))
def wp_X7_nextNumber_b34 (t_letters : Nat → Int32) (t_length : Int32) (Q : Int32 → Int32 → Int32 → Int32 → Int32 → Prop) (k0 : Int32) (t_at : Int32) (t_place : Int32) (t_token : Int32) (t_number : Int32) : Prop :=
  Q k0 t_at t_place t_token t_number
def wp_X7_nextNumber_b32 (t_letters : Nat → Int32) (t_length : Int32) (Q : Int32 → Int32 → Int32 → Int32 → Int32 → Prop) (t_at : Int32) (t_place : Int32) (t_token : Int32) (t_number : Int32) : Prop :=
  wp_X7_nextNumber_b34 t_letters t_length Q  (-9 : Int32) t_at t_place t_token t_number
def wp_X7_nextNumber (t_letters : Nat → Int32) (t_length : Int32) (t_at : Int32) (t_place : Int32) (t_token : Int32) (t_number : Int32) (p1 : Int32) (p2 : Int32) (Q : Int32 → Int32 → Int32 → Int32 → Int32 → Prop) : Prop :=
  wp_X7_nextToken t_letters t_length t_at t_place t_token t_number (fun t_at_1_1 t_place_1_2 t_token_1_3 t_number_1_4 =>
    (¬ t_token_1_3 = (-2 : Int32) →
      wp_X7_nextNumber_b32 t_letters t_length Q  t_at_1_1 t_place_1_2 t_token_1_3 t_number_1_4) ∧
    (t_token_1_3 = (-2 : Int32) →
      wp_X8_isWithin t_number_1_4 p1 p2 (fun r19_5 =>
        (r19_5 = 0 →
          wp_X7_nextNumber_b32 t_letters t_length Q  t_at_1_1 t_place_1_2 t_token_1_3 t_number_1_4) ∧
        (¬ r19_5 = 0 →
          wp_X7_nextNumber_b34 t_letters t_length Q  t_number_1_4 t_at_1_1 t_place_1_2 t_token_1_3 t_number_1_4))))
def wp_X7_nextEnds_b18 (t_letters : Nat → Int32) (t_length : Int32) (Q : Int32 → Int32 → Int32 → Int32 → Int32 → Prop) (k0 : Int32) (t_at : Int32) (t_place : Int32) (t_token : Int32) (t_number : Int32) : Prop :=
  (k0 = 0 ∨ k0 = 1) ∧
  Q k0 t_at t_place t_token t_number
def wp_X7_nextEnds (t_letters : Nat → Int32) (t_length : Int32) (t_at : Int32) (t_place : Int32) (t_token : Int32) (t_number : Int32) (Q : Int32 → Int32 → Int32 → Int32 → Int32 → Prop) : Prop :=
  wp_X7_nextToken t_letters t_length t_at t_place t_token t_number (fun t_at_1_1 t_place_1_2 t_token_1_3 t_number_1_4 =>
    (¬ t_token_1_3 = (59 : Int32) →
      wp_X7_nextEnds_b18 t_letters t_length Q  (0 : Int32) t_at_1_1 t_place_1_2 t_token_1_3 t_number_1_4) ∧
    (t_token_1_3 = (59 : Int32) →
      wp_X7_nextEnds_b18 t_letters t_length Q  (1 : Int32) t_at_1_1 t_place_1_2 t_token_1_3 t_number_1_4))
def wp_X0_has_b17 (N : Nat) (e_size : Int32) (Q : Int32 → Prop) (k0 : Int32) : Prop :=
  (k0 = 0 ∨ k0 = 1) ∧
  Q k0
def wp_X0_has_b16 (N : Nat) (e_size : Int32) (Q : Int32 → Prop)  : Prop :=
  wp_X0_has_b17 N e_size Q  (0 : Int32)
def wp_X0_has (N : Nat) (e_size : Int32) (p1 : Int32) (Q : Int32 → Prop) : Prop :=
  (p1 < 0 →
    wp_X0_has_b16 N e_size Q  ) ∧
  (¬ p1 < 0 →
    (e_size ≤ p1 →
      wp_X0_has_b16 N e_size Q  ) ∧
    (¬ e_size ≤ p1 →
      wp_X0_has_b17 N e_size Q  (1 : Int32)))
def wp_X0_put (N : Nat) (e_size : Int32) (e_days : Nat → Int32) (e_firsts : Nat → Int32) (e_seconds : Nat → Int32) (p1 : Int32) (p2 : Int32) (p3 : Int32) (p4 : Int32) (Q : (Nat → Int32) → (Nat → Int32) → (Nat → Int32) → Prop) : Prop :=
  wp_X0_has N e_size p1 (fun r2_1 =>
    (¬ r2_1 = 0 →
      vp_in p1 N ∧
      vp_in p1 N ∧
      vp_in p1 N ∧
      Q (upd e_days p1.toNatClampNeg p2) (upd e_firsts p1.toNatClampNeg p3) (upd e_seconds p1.toNatClampNeg p4)) ∧
    (r2_1 = 0 →
      Q e_days e_firsts e_seconds))
def wp_X0_insert_b83 (N : Nat) (Q : Int32 → (Nat → Int32) → (Nat → Int32) → (Nat → Int32) → Int32 → Prop) (v1 : Int32) (v2 : Int32) (v3 : Int32) (v4 : Int32) (e_days : Nat → Int32) (e_firsts : Nat → Int32) (e_seconds : Nat → Int32) (e_size : Int32) : Prop :=
  wp_X0_put N e_size e_days e_firsts e_seconds v4 v1 v2 v3 (fun e_days_89_1 e_firsts_89_2 e_seconds_89_3 =>
    Q v4 e_days_89_1 e_firsts_89_2 e_seconds_89_3 e_size)
def wp_X0_insert_h26 (N : Nat) (Q : Int32 → (Nat → Int32) → (Nat → Int32) → (Nat → Int32) → Int32 → Prop) : Nat → Int32 → Int32 → Int32 → Int32 → (Nat → Int32) → (Nat → Int32) → (Nat → Int32) → Int32 → Prop
  | 0 => fun _ _ _ _ _ _ _ _ => False
  | n + 1 => fun v1 v2 v3 v4 e_days e_firsts e_seconds e_size =>
    (v4 ≤ 0 →
      wp_X0_insert_b83 N Q  v1 v2 v3 v4 e_days e_firsts e_seconds e_size) ∧
    (¬ v4 ≤ 0 →
      vp_in (v4 - (1 : Int32)) N ∧
      ((e_days (v4 - (1 : Int32)).toNatClampNeg) ≤ v1 →
        wp_X0_insert_b83 N Q  v1 v2 v3 v4 e_days e_firsts e_seconds e_size) ∧
      (¬ (e_days (v4 - (1 : Int32)).toNatClampNeg) ≤ v1 →
        vp_in (v4 - (1 : Int32)) N ∧
        vp_in (v4 - (1 : Int32)) N ∧
        vp_in (v4 - (1 : Int32)) N ∧
        wp_X0_put N e_size e_days e_firsts e_seconds v4 (e_days (v4 - (1 : Int32)).toNatClampNeg) (e_firsts (v4 - (1 : Int32)).toNatClampNeg) (e_seconds (v4 - (1 : Int32)).toNatClampNeg) (fun e_days_74_4 e_firsts_74_5 e_seconds_74_6 =>
          ∀ x77_7 : Int32, x77_7 = v4 + (-1) →
          wp_X0_insert_h26 N Q  n v1 v2 v3 x77_7 e_days_74_4 e_firsts_74_5 e_seconds_74_6 e_size)))
def wp_X0_insert (N : Nat) (e_days : Nat → Int32) (e_firsts : Nat → Int32) (e_seconds : Nat → Int32) (e_size : Int32) (p1 : Int32) (p2 : Int32) (p3 : Int32) (Q : Int32 → (Nat → Int32) → (Nat → Int32) → (Nat → Int32) → Int32 → Prop) : Prop :=
  wp_X0_isFull N e_size (fun r1_8 =>
    (r1_8 = 0 →
      ∀ x23_9 : Int32, x23_9 = (e_size + (1 : Int32)) →
      ∃ n26, wp_X0_insert_h26 N Q  n26 p1 p2 p3 e_size e_days e_firsts e_seconds x23_9) ∧
    (¬ r1_8 = 0 →
      Q (-9 : Int32) e_days e_firsts e_seconds e_size))
def wp_X7_readReading_b64 (t_letters : Nat → Int32) (t_length : Int32) (Q : Int32 → Int32 → Int32 → Int32 → Int32 → (Nat → Int32) → (Nat → Int32) → (Nat → Int32) → Int32 → Prop) (t_at : Int32) (t_place : Int32) (t_token : Int32) (t_number : Int32) (te_days : Nat → Int32) (te_firsts : Nat → Int32) (te_seconds : Nat → Int32) (te_size : Int32) : Prop :=
  Q (0 : Int32) t_at t_place t_token t_number te_days te_firsts te_seconds te_size
def wp_X7_readReading (t_letters : Nat → Int32) (t_length : Int32) (t_at : Int32) (t_place : Int32) (t_token : Int32) (t_number : Int32) (te_days : Nat → Int32) (te_firsts : Nat → Int32) (te_seconds : Nat → Int32) (te_size : Int32) (Q : Int32 → Int32 → Int32 → Int32 → Int32 → (Nat → Int32) → (Nat → Int32) → (Nat → Int32) → Int32 → Prop) : Prop :=
  wp_X0_isFull 10 te_size (fun r7_1 =>
    (r7_1 = 0 →
      wp_X7_nextNumber t_letters t_length t_at t_place t_token t_number (0 : Int32) (999 : Int32) (fun r20_6 t_at_20_2 t_place_20_3 t_token_20_4 t_number_20_5 =>
        (0 ≤ r20_6 →
          wp_X7_nextNumber t_letters t_length t_at_20_2 t_place_20_3 t_token_20_4 t_number_20_5 (0 : Int32) (9999 : Int32) (fun r35_11 t_at_35_7 t_place_35_8 t_token_35_9 t_number_35_10 =>
            (0 ≤ r35_11 →
              wp_X7_nextNumber t_letters t_length t_at_35_7 t_place_35_8 t_token_35_9 t_number_35_10 (1 : Int32) (9 : Int32) (fun r49_16 t_at_49_12 t_place_49_13 t_token_49_14 t_number_49_15 =>
                (r49_16 < 0 →
                  wp_X7_readReading_b64 t_letters t_length Q  t_at_49_12 t_place_49_13 t_token_49_14 t_number_49_15 te_days te_firsts te_seconds te_size) ∧
                (¬ r49_16 < 0 →
                  wp_X7_nextEnds t_letters t_length t_at_49_12 t_place_49_13 t_token_49_14 t_number_49_15 (fun r58_21 t_at_58_17 t_place_58_18 t_token_58_19 t_number_58_20 =>
                    (¬ r58_21 = 0 →
                      wp_X0_insert 10 te_days te_firsts te_seconds te_size r20_6 r35_11 r49_16 (fun r76_26 e_days_76_22 e_firsts_76_23 e_seconds_76_24 e_size_76_25 =>
                        Q (1 : Int32) t_at_58_17 t_place_58_18 t_token_58_19 t_number_58_20 e_days_76_22 e_firsts_76_23 e_seconds_76_24 e_size_76_25)) ∧
                    (r58_21 = 0 →
                      wp_X7_readReading_b64 t_letters t_length Q  t_at_58_17 t_place_58_18 t_token_58_19 t_number_58_20 te_days te_firsts te_seconds te_size))))) ∧
            (¬ 0 ≤ r35_11 →
              Q (0 : Int32) t_at_35_7 t_place_35_8 t_token_35_9 t_number_35_10 te_days te_firsts te_seconds te_size))) ∧
        (¬ 0 ≤ r20_6 →
          Q (0 : Int32) t_at_20_2 t_place_20_3 t_token_20_4 t_number_20_5 te_days te_firsts te_seconds te_size))) ∧
    (¬ r7_1 = 0 →
      Q (0 : Int32) t_at t_place t_token t_number te_days te_firsts te_seconds te_size))
def wp_X7_readRate_b28 (t_letters : Nat → Int32) (t_length : Int32) (Q : Int32 → Int32 → Int32 → Int32 → Int32 → Int32 → Int32 → Prop) (t_at : Int32) (t_place : Int32) (t_token : Int32) (t_number : Int32) (t_rateTold : Int32) (th_rate : Int32) : Prop :=
  Q (0 : Int32) t_at t_place t_token t_number t_rateTold th_rate
def wp_X7_readRate (t_letters : Nat → Int32) (t_length : Int32) (t_at : Int32) (t_place : Int32) (t_token : Int32) (t_number : Int32) (t_rateTold : Int32) (th_rate : Int32) (Q : Int32 → Int32 → Int32 → Int32 → Int32 → Int32 → Int32 → Prop) : Prop :=
  (t_rateTold = 0 →
    wp_X7_nextNumber t_letters t_length t_at t_place t_token t_number (1 : Int32) (99 : Int32) (fun r13_5 t_at_13_1 t_place_13_2 t_token_13_3 t_number_13_4 =>
      (r13_5 < 0 →
        wp_X7_readRate_b28 t_letters t_length Q  t_at_13_1 t_place_13_2 t_token_13_3 t_number_13_4 t_rateTold th_rate) ∧
      (¬ r13_5 < 0 →
        wp_X7_nextEnds t_letters t_length t_at_13_1 t_place_13_2 t_token_13_3 t_number_13_4 (fun r22_10 t_at_22_6 t_place_22_7 t_token_22_8 t_number_22_9 =>
          (¬ r22_10 = 0 →
            Q (1 : Int32) t_at_22_6 t_place_22_7 t_token_22_8 t_number_22_9 (1 : Int32) r13_5) ∧
          (r22_10 = 0 →
            wp_X7_readRate_b28 t_letters t_length Q  t_at_22_6 t_place_22_7 t_token_22_8 t_number_22_9 t_rateTold th_rate))))) ∧
  (¬ t_rateTold = 0 →
    Q (0 : Int32) t_at t_place t_token t_number t_rateTold th_rate)
def wp_X8_isWrap_b21 (Q : Int32 → Prop) (k0 : Int32) : Prop :=
  (k0 = 0 ∨ k0 = 1) ∧
  Q k0
def wp_X8_isWrap_b16 (Q : Int32 → Prop)  : Prop :=
  wp_X8_isWrap_b21 Q  (1 : Int32)
def wp_X8_isWrap (p0 : Int32) (Q : Int32 → Prop) : Prop :=
  (p0 = 0 →
    wp_X8_isWrap_b16 Q  ) ∧
  (¬ p0 = 0 →
    wp_X8_isWithin p0 (100 : Int32) (9999 : Int32) (fun r10_1 =>
      (r10_1 = 0 →
        wp_X8_isWrap_b21 Q  (0 : Int32)) ∧
      (¬ r10_1 = 0 →
        wp_X8_isWrap_b16 Q  )))
def wp_X7_readWrap_b32 (t_letters : Nat → Int32) (t_length : Int32) (Q : Int32 → Int32 → Int32 → Int32 → Int32 → Int32 → Int32 → Prop) (t_at : Int32) (t_place : Int32) (t_token : Int32) (t_number : Int32) (t_wrapTold : Int32) (th_wrap : Int32) : Prop :=
  Q (0 : Int32) t_at t_place t_token t_number t_wrapTold th_wrap
def wp_X7_readWrap (t_letters : Nat → Int32) (t_length : Int32) (t_at : Int32) (t_place : Int32) (t_token : Int32) (t_number : Int32) (t_wrapTold : Int32) (th_wrap : Int32) (Q : Int32 → Int32 → Int32 → Int32 → Int32 → Int32 → Int32 → Prop) : Prop :=
  (t_wrapTold = 0 →
    wp_X7_nextNumber t_letters t_length t_at t_place t_token t_number (0 : Int32) (9999 : Int32) (fun r14_5 t_at_14_1 t_place_14_2 t_token_14_3 t_number_14_4 =>
      wp_X8_isWrap r14_5 (fun r19_6 =>
        (r19_6 = 0 →
          wp_X7_readWrap_b32 t_letters t_length Q  t_at_14_1 t_place_14_2 t_token_14_3 t_number_14_4 t_wrapTold th_wrap) ∧
        (¬ r19_6 = 0 →
          wp_X7_nextEnds t_letters t_length t_at_14_1 t_place_14_2 t_token_14_3 t_number_14_4 (fun r26_11 t_at_26_7 t_place_26_8 t_token_26_9 t_number_26_10 =>
            (¬ r26_11 = 0 →
              Q (1 : Int32) t_at_26_7 t_place_26_8 t_token_26_9 t_number_26_10 (1 : Int32) r14_5) ∧
            (r26_11 = 0 →
              wp_X7_readWrap_b32 t_letters t_length Q  t_at_26_7 t_place_26_8 t_token_26_9 t_number_26_10 t_wrapTold th_wrap)))))) ∧
  (¬ t_wrapTold = 0 →
    Q (0 : Int32) t_at t_place t_token t_number t_wrapTold th_wrap)
def wp_X7_nextPlate_b30 (t_letters : Nat → Int32) (t_length : Int32) (Q : Int32 → Int32 → Int32 → Int32 → Int32 → Prop) (k0 : Int32) (t_at : Int32) (t_place : Int32) (t_token : Int32) (t_number : Int32) : Prop :=
  Q k0 t_at t_place t_token t_number
def wp_X7_nextPlate (t_letters : Nat → Int32) (t_length : Int32) (t_at : Int32) (t_place : Int32) (t_token : Int32) (t_number : Int32) (Q : Int32 → Int32 → Int32 → Int32 → Int32 → Prop) : Prop :=
  wp_X7_nextToken t_letters t_length t_at t_place t_token t_number (fun t_at_1_1 t_place_1_2 t_token_1_3 t_number_1_4 =>
    wp_X8_isWithin t_token_1_3 (97 : Int32) (104 : Int32) (fun r12_5 =>
      (r12_5 = 0 →
        wp_X7_nextPlate_b30 t_letters t_length Q  (-9 : Int32) t_at_1_1 t_place_1_2 t_token_1_3 t_number_1_4) ∧
      (¬ r12_5 = 0 →
        wp_X7_nextPlate_b30 t_letters t_length Q  (t_token_1_3 - (97 : Int32)) t_at_1_1 t_place_1_2 t_token_1_3 t_number_1_4)))
def wp_X7_readStart_b25 (t_letters : Nat → Int32) (t_length : Int32) (Q : Int32 → Int32 → Int32 → Int32 → Int32 → Int32 → Int32 → Prop) (t_at : Int32) (t_place : Int32) (t_token : Int32) (t_number : Int32) (t_startTold : Int32) (tp_start : Int32) : Prop :=
  Q (0 : Int32) t_at t_place t_token t_number t_startTold tp_start
def wp_X7_readStart (t_letters : Nat → Int32) (t_length : Int32) (t_at : Int32) (t_place : Int32) (t_token : Int32) (t_number : Int32) (t_startTold : Int32) (tp_start : Int32) (Q : Int32 → Int32 → Int32 → Int32 → Int32 → Int32 → Int32 → Prop) : Prop :=
  (t_startTold = 0 →
    wp_X7_nextPlate t_letters t_length t_at t_place t_token t_number (fun r10_5 t_at_10_1 t_place_10_2 t_token_10_3 t_number_10_4 =>
      (r10_5 < 0 →
        wp_X7_readStart_b25 t_letters t_length Q  t_at_10_1 t_place_10_2 t_token_10_3 t_number_10_4 t_startTold tp_start) ∧
      (¬ r10_5 < 0 →
        wp_X7_nextEnds t_letters t_length t_at_10_1 t_place_10_2 t_token_10_3 t_number_10_4 (fun r19_10 t_at_19_6 t_place_19_7 t_token_19_8 t_number_19_9 =>
          (¬ r19_10 = 0 →
            Q (1 : Int32) t_at_19_6 t_place_19_7 t_token_19_8 t_number_19_9 (1 : Int32) r10_5) ∧
          (r19_10 = 0 →
            wp_X7_readStart_b25 t_letters t_length Q  t_at_19_6 t_place_19_7 t_token_19_8 t_number_19_9 t_startTold tp_start))))) ∧
  (¬ t_startTold = 0 →
    Q (0 : Int32) t_at t_place t_token t_number t_startTold tp_start)
def wp_X7_readChange_b62 (t_letters : Nat → Int32) (t_length : Int32) (Q : Int32 → Int32 → Int32 → Int32 → Int32 → (Nat → Int32) → (Nat → Int32) → (Nat → Int32) → Int32 → Prop) (t_at : Int32) (t_place : Int32) (t_token : Int32) (t_number : Int32) (tce_days : Nat → Int32) (tce_firsts : Nat → Int32) (tce_seconds : Nat → Int32) (tce_size : Int32) : Prop :=
  Q (0 : Int32) t_at t_place t_token t_number tce_days tce_firsts tce_seconds tce_size
def wp_X7_readChange (t_letters : Nat → Int32) (t_length : Int32) (t_at : Int32) (t_place : Int32) (t_token : Int32) (t_number : Int32) (tce_days : Nat → Int32) (tce_firsts : Nat → Int32) (tce_seconds : Nat → Int32) (tce_size : Int32) (Q : Int32 → Int32 → Int32 → Int32 → Int32 → (Nat → Int32) → (Nat → Int32) → (Nat → Int32) → Int32 → Prop) : Prop :=
  wp_X0_isFull 6 tce_size (fun r7_1 =>
    (r7_1 = 0 →
      wp_X7_nextNumber t_letters t_length t_at t_place t_token t_number (0 : Int32) (999 : Int32) (fun r20_6 t_at_20_2 t_place_20_3 t_token_20_4 t_number_20_5 =>
        (0 ≤ r20_6 →
          wp_X7_nextPlate t_letters t_length t_at_20_2 t_place_20_3 t_token_20_4 t_number_20_5 (fun r31_11 t_at_31_7 t_place_31_8 t_token_31_9 t_number_31_10 =>
            (0 ≤ r31_11 →
              wp_X7_nextPlate t_letters t_length t_at_31_7 t_place_31_8 t_token_31_9 t_number_31_10 (fun r42_16 t_at_42_12 t_place_42_13 t_token_42_14 t_number_42_15 =>
                (r42_16 < 0 →
                  wp_X7_readChange_b62 t_letters t_length Q  t_at_42_12 t_place_42_13 t_token_42_14 t_number_42_15 tce_days tce_firsts tce_seconds tce_size) ∧
                (¬ r42_16 < 0 →
                  (r42_16 = r31_11 →
                    wp_X7_readChange_b62 t_letters t_length Q  t_at_42_12 t_place_42_13 t_token_42_14 t_number_42_15 tce_days tce_firsts tce_seconds tce_size) ∧
                  (¬ r42_16 = r31_11 →
                    wp_X7_nextEnds t_letters t_length t_at_42_12 t_place_42_13 t_token_42_14 t_number_42_15 (fun r56_21 t_at_56_17 t_place_56_18 t_token_56_19 t_number_56_20 =>
                      (¬ r56_21 = 0 →
                        wp_X0_insert 6 tce_days tce_firsts tce_seconds tce_size r20_6 r31_11 r42_16 (fun r74_26 e_days_74_22 e_firsts_74_23 e_seconds_74_24 e_size_74_25 =>
                          Q (1 : Int32) t_at_56_17 t_place_56_18 t_token_56_19 t_number_56_20 e_days_74_22 e_firsts_74_23 e_seconds_74_24 e_size_74_25)) ∧
                      (r56_21 = 0 →
                        wp_X7_readChange_b62 t_letters t_length Q  t_at_56_17 t_place_56_18 t_token_56_19 t_number_56_20 tce_days tce_firsts tce_seconds tce_size)))))) ∧
            (¬ 0 ≤ r31_11 →
              Q (0 : Int32) t_at_31_7 t_place_31_8 t_token_31_9 t_number_31_10 tce_days tce_firsts tce_seconds tce_size))) ∧
        (¬ 0 ≤ r20_6 →
          Q (0 : Int32) t_at_20_2 t_place_20_3 t_token_20_4 t_number_20_5 tce_days tce_firsts tce_seconds tce_size))) ∧
    (¬ r7_1 = 0 →
      Q (0 : Int32) t_at t_place t_token t_number tce_days tce_firsts tce_seconds tce_size))
def wp_X7_read_b135 (t_letters : Nat → Int32) (t_length : Int32) (Q : Int32 → Int32 → Int32 → Int32 → Int32 → Int32 → Int32 → Int32 → Int32 → Int32 → (Nat → Int32) → (Nat → Int32) → (Nat → Int32) → Int32 → Int32 → (Nat → Int32) → (Nat → Int32) → (Nat → Int32) → Int32 → Prop) (t_at : Int32) (t_place : Int32) (t_token : Int32) (t_number : Int32) (t_rateTold : Int32) (t_wrapTold : Int32) (t_startTold : Int32) (th_rate : Int32) (th_wrap : Int32) (te_days : Nat → Int32) (te_firsts : Nat → Int32) (te_seconds : Nat → Int32) (te_size : Int32) (tp_start : Int32) (tce_days : Nat → Int32) (tce_firsts : Nat → Int32) (tce_seconds : Nat → Int32) (tce_size : Int32) : Prop :=
  Q ((-10 : Int32) - t_place) t_at t_place t_token t_number t_rateTold t_wrapTold t_startTold th_rate th_wrap te_days te_firsts te_seconds te_size tp_start tce_days tce_firsts tce_seconds tce_size
def wp_X7_read_b122 (t_letters : Nat → Int32) (t_length : Int32) (Q : Int32 → Int32 → Int32 → Int32 → Int32 → Int32 → Int32 → Int32 → Int32 → Int32 → (Nat → Int32) → (Nat → Int32) → (Nat → Int32) → Int32 → Int32 → (Nat → Int32) → (Nat → Int32) → (Nat → Int32) → Int32 → Prop) (K6 : Int32 → Int32 → Int32 → Int32 → Int32 → Int32 → Int32 → Int32 → Int32 → Int32 → (Nat → Int32) → (Nat → Int32) → (Nat → Int32) → Int32 → Int32 → (Nat → Int32) → (Nat → Int32) → (Nat → Int32) → Int32 → Prop) (v1 : Int32) (v2 : Int32) (t_at : Int32) (t_place : Int32) (t_token : Int32) (t_number : Int32) (t_rateTold : Int32) (t_wrapTold : Int32) (t_startTold : Int32) (th_rate : Int32) (th_wrap : Int32) (te_days : Nat → Int32) (te_firsts : Nat → Int32) (te_seconds : Nat → Int32) (te_size : Int32) (tp_start : Int32) (tce_days : Nat → Int32) (tce_firsts : Nat → Int32) (tce_seconds : Nat → Int32) (tce_size : Int32) : Prop :=
  (¬ v2 = 0 →
    ∀ x129_1 : Int32, x129_1 = v1 + 1 →
    K6 x129_1 t_at t_place t_token t_number t_rateTold t_wrapTold t_startTold th_rate th_wrap te_days te_firsts te_seconds te_size tp_start tce_days tce_firsts tce_seconds tce_size) ∧
  (v2 = 0 →
    wp_X7_read_b135 t_letters t_length Q  t_at t_place t_token t_number t_rateTold t_wrapTold t_startTold th_rate th_wrap te_days te_firsts te_seconds te_size tp_start tce_days tce_firsts tce_seconds tce_size)
def wp_X7_read_h6 (t_letters : Nat → Int32) (t_length : Int32) (Q : Int32 → Int32 → Int32 → Int32 → Int32 → Int32 → Int32 → Int32 → Int32 → Int32 → (Nat → Int32) → (Nat → Int32) → (Nat → Int32) → Int32 → Int32 → (Nat → Int32) → (Nat → Int32) → (Nat → Int32) → Int32 → Prop) : Nat → Int32 → Int32 → Int32 → Int32 → Int32 → Int32 → Int32 → Int32 → Int32 → Int32 → (Nat → Int32) → (Nat → Int32) → (Nat → Int32) → Int32 → Int32 → (Nat → Int32) → (Nat → Int32) → (Nat → Int32) → Int32 → Prop
  | 0 => fun _ _ _ _ _ _ _ _ _ _ _ _ _ _ _ _ _ _ _ => False
  | n + 1 => fun v1 t_at t_place t_token t_number t_rateTold t_wrapTold t_startTold th_rate th_wrap te_days te_firsts te_seconds te_size tp_start tce_days tce_firsts tce_seconds tce_size =>
    ((120 : Int32) < v1 →
      wp_X7_read_b135 t_letters t_length Q  t_at t_place t_token t_number t_rateTold t_wrapTold t_startTold th_rate th_wrap te_days te_firsts te_seconds te_size tp_start tce_days tce_firsts tce_seconds tce_size) ∧
    (¬ (120 : Int32) < v1 →
      wp_X7_nextToken t_letters t_length t_at t_place t_token t_number (fun t_at_15_2 t_place_15_3 t_token_15_4 t_number_15_5 =>
        (t_token_15_4 = (-1) →
          Q v1 t_at_15_2 t_place_15_3 t_token_15_4 t_number_15_5 t_rateTold t_wrapTold t_startTold th_rate th_wrap te_days te_firsts te_seconds te_size tp_start tce_days tce_firsts tce_seconds tce_size) ∧
        (t_token_15_4 = 102 →
          wp_X7_readRate t_letters t_length t_at_15_2 t_place_15_3 t_token_15_4 t_number_15_5 t_rateTold th_rate (fun r91_12 t_at_91_6 t_place_91_7 t_token_91_8 t_number_91_9 t_rateTold_91_10 th_rate_91_11 =>
            wp_X7_read_b122 t_letters t_length Q (fun y0 y1 y2 y3 y4 y5 y6 y7 y8 y9 y10 y11 y12 y13 y14 y15 y16 y17 y18 => wp_X7_read_h6 t_letters t_length Q  n y0 y1 y2 y3 y4 y5 y6 y7 y8 y9 y10 y11 y12 y13 y14 y15 y16 y17 y18) v1 r91_12 t_at_91_6 t_place_91_7 t_token_91_8 t_number_91_9 t_rateTold_91_10 t_wrapTold t_startTold th_rate_91_11 th_wrap te_days te_firsts te_seconds te_size tp_start tce_days tce_firsts tce_seconds tce_size)) ∧
        (t_token_15_4 = 111 →
          wp_X7_readStart t_letters t_length t_at_15_2 t_place_15_3 t_token_15_4 t_number_15_5 t_startTold tp_start (fun r107_19 t_at_107_13 t_place_107_14 t_token_107_15 t_number_107_16 t_startTold_107_17 tp_start_107_18 =>
            wp_X7_read_b122 t_letters t_length Q (fun y0 y1 y2 y3 y4 y5 y6 y7 y8 y9 y10 y11 y12 y13 y14 y15 y16 y17 y18 => wp_X7_read_h6 t_letters t_length Q  n y0 y1 y2 y3 y4 y5 y6 y7 y8 y9 y10 y11 y12 y13 y14 y15 y16 y17 y18) v1 r107_19 t_at_107_13 t_place_107_14 t_token_107_15 t_number_107_16 t_rateTold t_wrapTold t_startTold_107_17 th_rate th_wrap te_days te_firsts te_seconds te_size tp_start_107_18 tce_days tce_firsts tce_seconds tce_size)) ∧
        (t_token_15_4 = 112 →
          wp_X7_readChange t_letters t_length t_at_15_2 t_place_15_3 t_token_15_4 t_number_15_5 tce_days tce_firsts tce_seconds tce_size (fun r115_28 t_at_115_20 t_place_115_21 t_token_115_22 t_number_115_23 tce_days_115_24 tce_firsts_115_25 tce_seconds_115_26 tce_size_115_27 =>
            wp_X7_read_b122 t_letters t_length Q (fun y0 y1 y2 y3 y4 y5 y6 y7 y8 y9 y10 y11 y12 y13 y14 y15 y16 y17 y18 => wp_X7_read_h6 t_letters t_length Q  n y0 y1 y2 y3 y4 y5 y6 y7 y8 y9 y10 y11 y12 y13 y14 y15 y16 y17 y18) v1 r115_28 t_at_115_20 t_place_115_21 t_token_115_22 t_number_115_23 t_rateTold t_wrapTold t_startTold th_rate th_wrap te_days te_firsts te_seconds te_size tp_start tce_days_115_24 tce_firsts_115_25 tce_seconds_115_26 tce_size_115_27)) ∧
        (t_token_15_4 = 114 →
          wp_X7_readReading t_letters t_length t_at_15_2 t_place_15_3 t_token_15_4 t_number_15_5 te_days te_firsts te_seconds te_size (fun r83_37 t_at_83_29 t_place_83_30 t_token_83_31 t_number_83_32 te_days_83_33 te_firsts_83_34 te_seconds_83_35 te_size_83_36 =>
            wp_X7_read_b122 t_letters t_length Q (fun y0 y1 y2 y3 y4 y5 y6 y7 y8 y9 y10 y11 y12 y13 y14 y15 y16 y17 y18 => wp_X7_read_h6 t_letters t_length Q  n y0 y1 y2 y3 y4 y5 y6 y7 y8 y9 y10 y11 y12 y13 y14 y15 y16 y17 y18) v1 r83_37 t_at_83_29 t_place_83_30 t_token_83_31 t_number_83_32 t_rateTold t_wrapTold t_startTold th_rate th_wrap te_days_83_33 te_firsts_83_34 te_seconds_83_35 te_size_83_36 tp_start tce_days tce_firsts tce_seconds tce_size)) ∧
        (t_token_15_4 = 119 →
          wp_X7_readWrap t_letters t_length t_at_15_2 t_place_15_3 t_token_15_4 t_number_15_5 t_wrapTold th_wrap (fun r99_44 t_at_99_38 t_place_99_39 t_token_99_40 t_number_99_41 t_wrapTold_99_42 th_wrap_99_43 =>
            wp_X7_read_b122 t_letters t_length Q (fun y0 y1 y2 y3 y4 y5 y6 y7 y8 y9 y10 y11 y12 y13 y14 y15 y16 y17 y18 => wp_X7_read_h6 t_letters t_length Q  n y0 y1 y2 y3 y4 y5 y6 y7 y8 y9 y10 y11 y12 y13 y14 y15 y16 y17 y18) v1 r99_44 t_at_99_38 t_place_99_39 t_token_99_40 t_number_99_41 t_rateTold t_wrapTold_99_42 t_startTold th_rate th_wrap_99_43 te_days te_firsts te_seconds te_size tp_start tce_days tce_firsts tce_seconds tce_size)) ∧
        (¬ t_token_15_4 = (-1) → ¬ t_token_15_4 = 102 → ¬ t_token_15_4 = 111 → ¬ t_token_15_4 = 112 → ¬ t_token_15_4 = 114 → ¬ t_token_15_4 = 119 →
          wp_X7_read_b122 t_letters t_length Q (fun y0 y1 y2 y3 y4 y5 y6 y7 y8 y9 y10 y11 y12 y13 y14 y15 y16 y17 y18 => wp_X7_read_h6 t_letters t_length Q  n y0 y1 y2 y3 y4 y5 y6 y7 y8 y9 y10 y11 y12 y13 y14 y15 y16 y17 y18) v1 (0 : Int32) t_at_15_2 t_place_15_3 t_token_15_4 t_number_15_5 t_rateTold t_wrapTold t_startTold th_rate th_wrap te_days te_firsts te_seconds te_size tp_start tce_days tce_firsts tce_seconds tce_size)))
def wp_X7_read (t_letters : Nat → Int32) (t_length : Int32) (t_at : Int32) (t_place : Int32) (t_token : Int32) (t_number : Int32) (t_rateTold : Int32) (t_wrapTold : Int32) (t_startTold : Int32) (th_rate : Int32) (th_wrap : Int32) (te_days : Nat → Int32) (te_firsts : Nat → Int32) (te_seconds : Nat → Int32) (te_size : Int32) (tp_start : Int32) (tce_days : Nat → Int32) (tce_firsts : Nat → Int32) (tce_seconds : Nat → Int32) (tce_size : Int32) (Q : Int32 → Int32 → Int32 → Int32 → Int32 → Int32 → Int32 → Int32 → Int32 → Int32 → (Nat → Int32) → (Nat → Int32) → (Nat → Int32) → Int32 → Int32 → (Nat → Int32) → (Nat → Int32) → (Nat → Int32) → Int32 → Prop) : Prop :=
  wp_X7_begin t_at t_rateTold t_wrapTold t_startTold th_rate th_wrap te_size tp_start tce_size (fun t_at_1_45 t_rateTold_1_46 t_wrapTold_1_47 t_startTold_1_48 th_rate_1_49 th_wrap_1_50 te_size_1_51 tp_start_1_52 tce_size_1_53 =>
    ∃ n6, wp_X7_read_h6 t_letters t_length Q  n6 (0 : Int32) t_at_1_45 t_place t_token t_number t_rateTold_1_46 t_wrapTold_1_47 t_startTold_1_48 th_rate_1_49 th_wrap_1_50 te_days te_firsts te_seconds te_size_1_51 tp_start_1_52 tce_days tce_firsts tce_seconds tce_size_1_53)
def wp_X0_copy_h18 (N : Nat) (oN : Nat) (oe_days : Nat → Int32) (oe_firsts : Nat → Int32) (oe_seconds : Nat → Int32) (oe_size : Int32) (Q : (Nat → Int32) → (Nat → Int32) → (Nat → Int32) → Int32 → Prop) : Nat → Int32 → (Nat → Int32) → (Nat → Int32) → (Nat → Int32) → Int32 → Prop
  | 0 => fun _ _ _ _ _ => False
  | n + 1 => fun v2 e_days e_firsts e_seconds e_size =>
    (e_size ≤ v2 →
      Q e_days e_firsts e_seconds e_size) ∧
    (¬ e_size ≤ v2 →
      vp_in v2 oN ∧
      vp_in v2 oN ∧
      vp_in v2 oN ∧
      wp_X0_put N e_size e_days e_firsts e_seconds v2 (oe_days v2.toNatClampNeg) (oe_firsts v2.toNatClampNeg) (oe_seconds v2.toNatClampNeg) (fun e_days_46_1 e_firsts_46_2 e_seconds_46_3 =>
        ∀ x49_4 : Int32, x49_4 = v2 + 1 →
        wp_X0_copy_h18 N oN oe_days oe_firsts oe_seconds oe_size Q  n x49_4 e_days_46_1 e_firsts_46_2 e_seconds_46_3 e_size))
def wp_X0_copy (N : Nat) (oN : Nat) (oe_days : Nat → Int32) (oe_firsts : Nat → Int32) (oe_seconds : Nat → Int32) (oe_size : Int32) (e_days : Nat → Int32) (e_firsts : Nat → Int32) (e_seconds : Nat → Int32) (e_size : Int32) (Q : (Nat → Int32) → (Nat → Int32) → (Nat → Int32) → Int32 → Prop) : Prop :=
  ∀ x10_5 : Int32, x10_5 = (if (nI N) < oe_size then (nI N) else oe_size) →
  ∃ n18, wp_X0_copy_h18 N oN oe_days oe_firsts oe_seconds oe_size Q  n18 (0 : Int32) e_days e_firsts e_seconds x10_5
def wp_X1_copy (oh_rate : Int32) (oh_wrap : Int32) (oe_days : Nat → Int32) (oe_firsts : Nat → Int32) (oe_seconds : Nat → Int32) (oe_size : Int32) (h_rate : Int32) (h_wrap : Int32) (e_days : Nat → Int32) (e_firsts : Nat → Int32) (e_seconds : Nat → Int32) (e_size : Int32) (Q : Int32 → Int32 → (Nat → Int32) → (Nat → Int32) → (Nat → Int32) → Int32 → Prop) : Prop :=
  wp_X0_copy 10 10 oe_days oe_firsts oe_seconds oe_size e_days e_firsts e_seconds e_size (fun e_days_8_1 e_firsts_8_2 e_seconds_8_3 e_size_8_4 =>
    Q oh_rate oh_wrap e_days_8_1 e_firsts_8_2 e_seconds_8_3 e_size_8_4)
def wp_X4_copy (op_start : Int32) (oce_days : Nat → Int32) (oce_firsts : Nat → Int32) (oce_seconds : Nat → Int32) (oce_size : Int32) (p_start : Int32) (ce_days : Nat → Int32) (ce_firsts : Nat → Int32) (ce_seconds : Nat → Int32) (ce_size : Int32) (Q : Int32 → (Nat → Int32) → (Nat → Int32) → (Nat → Int32) → Int32 → Prop) : Prop :=
  wp_X0_copy 6 6 oce_days oce_firsts oce_seconds oce_size ce_days ce_firsts ce_seconds ce_size (fun e_days_8_1 e_firsts_8_2 e_seconds_8_3 e_size_8_4 =>
    Q op_start e_days_8_1 e_firsts_8_2 e_seconds_8_3 e_size_8_4)
def wp_X3_forget (q_size : Int32) (Q : Int32 → Prop) : Prop :=
  Q (0 : Int32)
def wp_X8_house_h59 (t_letters : Nat → Int32) (Q : Int32 → (Nat → Int32) → Int32 → Int32 → (Nat → Int32) → (Nat → Int32) → (Nat → Int32) → Int32 → (Nat → Int32) → (Nat → Int32) → Int32 → Int32 → (Nat → Int32) → (Nat → Int32) → (Nat → Int32) → Int32 → Int32 → Int32 → Int32 → Int32 → Int32 → Int32 → Int32 → Int32 → Int32 → Int32 → (Nat → Int32) → (Nat → Int32) → (Nat → Int32) → Int32 → Int32 → (Nat → Int32) → (Nat → Int32) → (Nat → Int32) → Int32 → Int32 → (Nat → Int32) → (Nat → Int32) → (Nat → Int32) → (Nat → Int32) → (Nat → Int32) → (Nat → Int64) → (Nat → Int32) → (Nat → Int32) → (Nat → Int32) → (Nat → Int32) → Int32 → Int32 → Int32 → Int32 → Prop) : Nat → Int32 → Int32 → (Nat → Int32) → Int32 → Int32 → (Nat → Int32) → (Nat → Int32) → (Nat → Int32) → Int32 → (Nat → Int32) → (Nat → Int32) → Int32 → Int32 → (Nat → Int32) → (Nat → Int32) → (Nat → Int32) → Int32 → Int32 → Int32 → Int32 → Int32 → Int32 → Int32 → Int32 → Int32 → Int32 → Int32 → (Nat → Int32) → (Nat → Int32) → (Nat → Int32) → Int32 → Int32 → (Nat → Int32) → (Nat → Int32) → (Nat → Int32) → Int32 → Int32 → (Nat → Int32) → (Nat → Int32) → (Nat → Int32) → (Nat → Int32) → (Nat → Int32) → (Nat → Int64) → (Nat → Int32) → (Nat → Int32) → (Nat → Int32) → (Nat → Int32) → Int32 → Int32 → Int32 → Int32 → Prop
  | 0 => fun _ _ _ _ _ _ _ _ _ _ _ _ _ _ _ _ _ _ _ _ _ _ _ _ _ _ _ _ _ _ _ _ _ _ _ _ _ _ _ _ _ _ _ _ _ _ _ _ _ _ _ => False
  | n + 1 => fun v1 v2 x_kept h_rate h_wrap e_days e_firsts e_seconds e_size p_held p_most p_start p_heldInAll ce_days ce_firsts ce_seconds ce_size t_length t_at t_place t_token t_number t_rateTold t_wrapTold t_startTold th_rate th_wrap te_days te_firsts te_seconds te_size tp_start tce_days tce_firsts tce_seconds tce_size q_size s_days s_fars s_goods r_until r_rest r_ways r_inEach r_inAny r_firsts r_reasons r_keptInFirst r_swapAt r_swapGood l_known =>
    ((2 : Int32) ≤ v2 →
      wp_X8_repairAnew h_rate h_wrap e_days e_firsts e_seconds e_size s_days s_fars s_goods r_until r_rest r_ways r_inEach r_inAny r_firsts r_reasons r_keptInFirst r_swapAt r_swapGood l_known (fun s_days_78_1 s_fars_78_2 s_goods_78_3 r_until_78_4 r_rest_78_5 r_ways_78_6 r_inEach_78_7 r_inAny_78_8 r_firsts_78_9 r_reasons_78_10 r_keptInFirst_78_11 r_swapAt_78_12 r_swapGood_78_13 l_known_78_14 =>
        wp_X4_follow p_start ce_firsts ce_seconds ce_size p_held p_most p_heldInAll (fun p_held_85_15 p_most_85_16 p_heldInAll_85_17 =>
          Q v1 x_kept h_rate h_wrap e_days e_firsts e_seconds e_size p_held_85_15 p_most_85_16 p_start p_heldInAll_85_17 ce_days ce_firsts ce_seconds ce_size t_length t_at t_place t_token t_number t_rateTold t_wrapTold t_startTold th_rate th_wrap te_days te_firsts te_seconds te_size tp_start tce_days tce_firsts tce_seconds tce_size q_size s_days_78_1 s_fars_78_2 s_goods_78_3 r_until_78_4 r_rest_78_5 r_ways_78_6 r_inEach_78_7 r_inAny_78_8 r_firsts_78_9 r_reasons_78_10 r_keptInFirst_78_11 r_swapAt_78_12 r_swapGood_78_13 l_known_78_14))) ∧
    (¬ (2 : Int32) ≤ v2 →
      vp_in v2 2 ∧
      ∀ x71_18 : Int32, x71_18 = v2 + 1 →
      wp_X8_house_h59 t_letters Q  n v1 x71_18 (upd x_kept v2.toNatClampNeg (vp_nar .boolean (0 : Int32))) h_rate h_wrap e_days e_firsts e_seconds e_size p_held p_most p_start p_heldInAll ce_days ce_firsts ce_seconds ce_size t_length t_at t_place t_token t_number t_rateTold t_wrapTold t_startTold th_rate th_wrap te_days te_firsts te_seconds te_size tp_start tce_days tce_firsts tce_seconds tce_size q_size s_days s_fars s_goods r_until r_rest r_ways r_inEach r_inAny r_firsts r_reasons r_keptInFirst r_swapAt r_swapGood l_known)
def wp_X8_house (t_letters : Nat → Int32) (x_kept : Nat → Int32) (h_rate : Int32) (h_wrap : Int32) (e_days : Nat → Int32) (e_firsts : Nat → Int32) (e_seconds : Nat → Int32) (e_size : Int32) (p_held : Nat → Int32) (p_most : Nat → Int32) (p_start : Int32) (p_heldInAll : Int32) (ce_days : Nat → Int32) (ce_firsts : Nat → Int32) (ce_seconds : Nat → Int32) (ce_size : Int32) (t_length : Int32) (t_at : Int32) (t_place : Int32) (t_token : Int32) (t_number : Int32) (t_rateTold : Int32) (t_wrapTold : Int32) (t_startTold : Int32) (th_rate : Int32) (th_wrap : Int32) (te_days : Nat → Int32) (te_firsts : Nat → Int32) (te_seconds : Nat → Int32) (te_size : Int32) (tp_start : Int32) (tce_days : Nat → Int32) (tce_firsts : Nat → Int32) (tce_seconds : Nat → Int32) (tce_size : Int32) (q_size : Int32) (s_days : Nat → Int32) (s_fars : Nat → Int32) (s_goods : Nat → Int32) (r_until : Nat → Int32) (r_rest : Nat → Int32) (r_ways : Nat → Int64) (r_inEach : Nat → Int32) (r_inAny : Nat → Int32) (r_firsts : Nat → Int32) (r_reasons : Nat → Int32) (r_keptInFirst : Int32) (r_swapAt : Int32) (r_swapGood : Int32) (l_known : Int32) (Q : Int32 → (Nat → Int32) → Int32 → Int32 → (Nat → Int32) → (Nat → Int32) → (Nat → Int32) → Int32 → (Nat → Int32) → (Nat → Int32) → Int32 → Int32 → (Nat → Int32) → (Nat → Int32) → (Nat → Int32) → Int32 → Int32 → Int32 → Int32 → Int32 → Int32 → Int32 → Int32 → Int32 → Int32 → Int32 → (Nat → Int32) → (Nat → Int32) → (Nat → Int32) → Int32 → Int32 → (Nat → Int32) → (Nat → Int32) → (Nat → Int32) → Int32 → Int32 → (Nat → Int32) → (Nat → Int32) → (Nat → Int32) → (Nat → Int32) → (Nat → Int32) → (Nat → Int64) → (Nat → Int32) → (Nat → Int32) → (Nat → Int32) → (Nat → Int32) → Int32 → Int32 → Int32 → Int32 → Prop) : Prop :=
  wp_X7_read t_letters t_length t_at t_place t_token t_number t_rateTold t_wrapTold t_startTold th_rate th_wrap te_days te_firsts te_seconds te_size tp_start tce_days tce_firsts tce_seconds tce_size (fun r4_37 t_at_4_19 t_place_4_20 t_token_4_21 t_number_4_22 t_rateTold_4_23 t_wrapTold_4_24 t_startTold_4_25 th_rate_4_26 th_wrap_4_27 te_days_4_28 te_firsts_4_29 te_seconds_4_30 te_size_4_31 tp_start_4_32 tce_days_4_33 tce_firsts_4_34 tce_seconds_4_35 tce_size_4_36 =>
    (0 ≤ r4_37 →
      wp_X1_copy th_rate_4_26 th_wrap_4_27 te_days_4_28 te_firsts_4_29 te_seconds_4_30 te_size_4_31 h_rate h_wrap e_days e_firsts e_seconds e_size (fun h_rate_25_38 h_wrap_25_39 e_days_25_40 e_firsts_25_41 e_seconds_25_42 e_size_25_43 =>
        wp_X4_copy tp_start_4_32 tce_days_4_33 tce_firsts_4_34 tce_seconds_4_35 tce_size_4_36 p_start ce_days ce_firsts ce_seconds ce_size (fun p_start_39_44 ce_days_39_45 ce_firsts_39_46 ce_seconds_39_47 ce_size_39_48 =>
          wp_X7_empty t_length (fun r46_50 t_length_46_49 =>
            wp_X3_forget q_size (fun q_size_54_51 =>
              ∃ n59, wp_X8_house_h59 t_letters Q  n59 r4_37 (0 : Int32) x_kept h_rate_25_38 h_wrap_25_39 e_days_25_40 e_firsts_25_41 e_seconds_25_42 e_size_25_43 p_held p_most p_start_39_44 p_heldInAll ce_days_39_45 ce_firsts_39_46 ce_seconds_39_47 ce_size_39_48 t_length_46_49 t_at_4_19 t_place_4_20 t_token_4_21 t_number_4_22 t_rateTold_4_23 t_wrapTold_4_24 t_startTold_4_25 th_rate_4_26 th_wrap_4_27 te_days_4_28 te_firsts_4_29 te_seconds_4_30 te_size_4_31 tp_start_4_32 tce_days_4_33 tce_firsts_4_34 tce_seconds_4_35 tce_size_4_36 q_size_54_51 s_days s_fars s_goods r_until r_rest r_ways r_inEach r_inAny r_firsts r_reasons r_keptInFirst r_swapAt r_swapGood l_known))))) ∧
    (¬ 0 ≤ r4_37 →
      Q r4_37 x_kept h_rate h_wrap e_days e_firsts e_seconds e_size p_held p_most p_start p_heldInAll ce_days ce_firsts ce_seconds ce_size t_length t_at_4_19 t_place_4_20 t_token_4_21 t_number_4_22 t_rateTold_4_23 t_wrapTold_4_24 t_startTold_4_25 th_rate_4_26 th_wrap_4_27 te_days_4_28 te_firsts_4_29 te_seconds_4_30 te_size_4_31 tp_start_4_32 tce_days_4_33 tce_firsts_4_34 tce_seconds_4_35 tce_size_4_36 q_size s_days s_fars s_goods r_until r_rest r_ways r_inEach r_inAny r_firsts r_reasons r_keptInFirst r_swapAt r_swapGood l_known))
def wp_X9_isMore_b54 (m_letterMany : Int32) (m_text : Nat → Int32) (Q : Int32 → Int32 → Prop) (k0 : Int32) (m_readAt : Int32) : Prop :=
  (k0 = 0 ∨ k0 = 1) ∧
  Q k0 m_readAt
def wp_X9_isMore_b38 (m_letterMany : Int32) (m_text : Nat → Int32) (Q : Int32 → Int32 → Prop) (m_readAt : Int32) : Prop :=
  (m_letterMany ≤ m_readAt →
    wp_X9_isMore_b54 m_letterMany m_text Q  (0 : Int32) m_readAt) ∧
  (¬ m_letterMany ≤ m_readAt →
    wp_X9_isMore_b54 m_letterMany m_text Q  (1 : Int32) m_readAt)
def wp_X9_isMore_h0 (m_letterMany : Int32) (m_text : Nat → Int32) (Q : Int32 → Int32 → Prop) : Nat → Int32 → Prop
  | 0 => fun _ => False
  | n + 1 => fun m_readAt =>
    (m_letterMany ≤ m_readAt →
      wp_X9_isMore_b38 m_letterMany m_text Q  m_readAt) ∧
    (¬ m_letterMany ≤ m_readAt →
      vp_in m_readAt 120 ∧
      (¬ (m_text m_readAt.toNatClampNeg) = (32 : Int32) →
        wp_X9_isMore_b38 m_letterMany m_text Q  m_readAt) ∧
      ((m_text m_readAt.toNatClampNeg) = (32 : Int32) →
        ∀ x32_1 : Int32, x32_1 = (m_readAt + (1 : Int32)) →
        wp_X9_isMore_h0 m_letterMany m_text Q  n x32_1))
def wp_X9_isMore (m_letterMany : Int32) (m_text : Nat → Int32) (m_readAt : Int32) (Q : Int32 → Int32 → Prop) : Prop :=
  ∃ n0, wp_X9_isMore_h0 m_letterMany m_text Q  n0 m_readAt
def wp_X9_isFigure_b35 (m_letterMany : Int32) (m_text : Nat → Int32) (m_readAt : Int32) (Q : Int32 → Prop) (k0 : Int32) : Prop :=
  (k0 = 0 ∨ k0 = 1) ∧
  Q k0
def wp_X9_isFigure_b34 (m_letterMany : Int32) (m_text : Nat → Int32) (m_readAt : Int32) (Q : Int32 → Prop)  : Prop :=
  wp_X9_isFigure_b35 m_letterMany m_text m_readAt Q  (0 : Int32)
def wp_X9_isFigure (m_letterMany : Int32) (m_text : Nat → Int32) (m_readAt : Int32) (Q : Int32 → Prop) : Prop :=
  (m_letterMany ≤ m_readAt →
    wp_X9_isFigure_b34 m_letterMany m_text m_readAt Q  ) ∧
  (¬ m_letterMany ≤ m_readAt →
    vp_in m_readAt 120 ∧
    wp_X9_in (m_text m_readAt.toNatClampNeg) (48 : Int32) (57 : Int32) (fun r24_1 =>
      (r24_1 = 0 →
        wp_X9_isFigure_b34 m_letterMany m_text m_readAt Q  ) ∧
      (¬ r24_1 = 0 →
        wp_X9_isFigure_b35 m_letterMany m_text m_readAt Q  (1 : Int32))))
def wp_X9_next_b254 (m_letterMany : Int32) (m_text : Nat → Int32) (Q : Int32 → Int32 → Int32 → Int32 → Prop) (m_readAt : Int32) (m_tokenAt : Int32) (m_token : Int32) (m_value : Int32) : Prop :=
  Q m_readAt m_tokenAt m_token m_value
def wp_X9_next_b241 (m_letterMany : Int32) (m_text : Nat → Int32) (Q : Int32 → Int32 → Int32 → Int32 → Prop) (k0 : Int32) (m_readAt : Int32) (m_tokenAt : Int32) (m_token : Int32) (m_value : Int32) : Prop :=
  ∀ x251_1 : Int32, x251_1 = (m_readAt + (1 : Int32)) →
  wp_X9_next_b254 m_letterMany m_text Q  x251_1 m_tokenAt k0 m_value
def wp_X9_next_b227 (m_letterMany : Int32) (m_text : Nat → Int32) (Q : Int32 → Int32 → Int32 → Int32 → Prop) (m_readAt : Int32) (m_tokenAt : Int32) (m_token : Int32) (m_value : Int32) : Prop :=
  vp_in m_readAt 120 ∧
  wp_X9_next_b241 m_letterMany m_text Q  (m_text m_readAt.toNatClampNeg) m_readAt m_tokenAt m_token m_value
def wp_X9_next_b187 (m_letterMany : Int32) (m_text : Nat → Int32) (Q : Int32 → Int32 → Int32 → Int32 → Prop) (k0 : Int32) (m_readAt : Int32) (m_tokenAt : Int32) (m_token : Int32) (m_value : Int32) : Prop :=
  wp_X9_next_b254 m_letterMany m_text Q  m_readAt m_tokenAt k0 m_value
def wp_X9_next_b186 (m_letterMany : Int32) (m_text : Nat → Int32) (Q : Int32 → Int32 → Int32 → Int32 → Prop) (m_readAt : Int32) (m_tokenAt : Int32) (m_token : Int32) (m_value : Int32) : Prop :=
  wp_X9_next_b187 m_letterMany m_text Q  (0 : Int32) m_readAt m_tokenAt m_token m_value
def wp_X9_next_b181 (m_letterMany : Int32) (m_text : Nat → Int32) (Q : Int32 → Int32 → Int32 → Int32 → Prop) (m_readAt : Int32) (m_tokenAt : Int32) (m_token : Int32) (m_value : Int32) : Prop :=
  wp_X9_next_b187 m_letterMany m_text Q  (-2 : Int32) m_readAt m_tokenAt m_token m_value
def wp_X9_next_b127 (m_letterMany : Int32) (m_text : Nat → Int32) (Q : Int32 → Int32 → Int32 → Int32 → Prop) (K82 : Int32 → Int32 → Int32 → Int32 → Prop) (k0 : Int32) (m_readAt : Int32) (m_tokenAt : Int32) (m_token : Int32) (m_value : Int32) : Prop :=
  ∀ x137_2 : Int32, x137_2 = (m_readAt + (1 : Int32)) →
  K82 x137_2 m_tokenAt m_token k0
def wp_X9_next_h82 (m_letterMany : Int32) (m_text : Nat → Int32) (Q : Int32 → Int32 → Int32 → Int32 → Prop) : Nat → Int32 → Int32 → Int32 → Int32 → Prop
  | 0 => fun _ _ _ _ => False
  | n + 1 => fun m_readAt m_tokenAt m_token m_value =>
    wp_X9_isFigure m_letterMany m_text m_readAt (fun r83_3 =>
      (r83_3 = 0 →
        ((9999 : Int32) < m_value →
          wp_X9_next_b181 m_letterMany m_text Q  m_readAt m_tokenAt m_token m_value) ∧
        (¬ (9999 : Int32) < m_value →
          vp_in m_tokenAt 120 ∧
          (¬ (m_text m_tokenAt.toNatClampNeg) = (48 : Int32) →
            wp_X9_next_b186 m_letterMany m_text Q  m_readAt m_tokenAt m_token m_value) ∧
          ((m_text m_tokenAt.toNatClampNeg) = (48 : Int32) →
            ((m_readAt - m_tokenAt) ≤ (1 : Int32) →
              wp_X9_next_b186 m_letterMany m_text Q  m_readAt m_tokenAt m_token m_value) ∧
            (¬ (m_readAt - m_tokenAt) ≤ (1 : Int32) →
              wp_X9_next_b181 m_letterMany m_text Q  m_readAt m_tokenAt m_token m_value)))) ∧
      (¬ r83_3 = 0 →
        (m_value ≤ (9999 : Int32) →
          vp_in m_readAt 120 ∧
          wp_X9_next_b127 m_letterMany m_text Q (fun y0 y1 y2 y3 => wp_X9_next_h82 m_letterMany m_text Q  n y0 y1 y2 y3) ((((10 : Int32) * m_value) + (m_text m_readAt.toNatClampNeg)) - (48 : Int32)) m_readAt m_tokenAt m_token m_value) ∧
        (¬ m_value ≤ (9999 : Int32) →
          wp_X9_next_b127 m_letterMany m_text Q (fun y0 y1 y2 y3 => wp_X9_next_h82 m_letterMany m_text Q  n y0 y1 y2 y3) m_value m_readAt m_tokenAt m_token m_value)))
def wp_X9_next_b38 (m_letterMany : Int32) (m_text : Nat → Int32) (Q : Int32 → Int32 → Int32 → Int32 → Prop) (m_readAt : Int32) (m_tokenAt : Int32) (m_token : Int32) (m_value : Int32) : Prop :=
  (¬ m_readAt = m_letterMany →
    wp_X9_isFigure m_letterMany m_text m_readAt (fun r66_4 =>
      (r66_4 = 0 →
        vp_in m_readAt 120 ∧
        wp_X9_in (m_text m_readAt.toNatClampNeg) (97 : Int32) (122 : Int32) (fun r207_5 =>
          (¬ r207_5 = 0 →
            wp_X9_next_b227 m_letterMany m_text Q  m_readAt m_readAt m_token m_value) ∧
          (r207_5 = 0 →
            vp_in m_readAt 120 ∧
            (¬ (m_text m_readAt.toNatClampNeg) = (59 : Int32) →
              wp_X9_next_b241 m_letterMany m_text Q  (-2 : Int32) m_readAt m_readAt m_token m_value) ∧
            ((m_text m_readAt.toNatClampNeg) = (59 : Int32) →
              wp_X9_next_b227 m_letterMany m_text Q  m_readAt m_readAt m_token m_value)))) ∧
      (¬ r66_4 = 0 →
        ∃ n82, wp_X9_next_h82 m_letterMany m_text Q  n82 m_readAt m_readAt (0 : Int32) (0 : Int32)))) ∧
  (m_readAt = m_letterMany →
    wp_X9_next_b254 m_letterMany m_text Q  m_readAt m_readAt (-1 : Int32) m_value)
def wp_X9_next_h0 (m_letterMany : Int32) (m_text : Nat → Int32) (Q : Int32 → Int32 → Int32 → Int32 → Prop) : Nat → Int32 → Int32 → Int32 → Int32 → Prop
  | 0 => fun _ _ _ _ => False
  | n + 1 => fun m_readAt m_tokenAt m_token m_value =>
    (m_letterMany ≤ m_readAt →
      wp_X9_next_b38 m_letterMany m_text Q  m_readAt m_tokenAt m_token m_value) ∧
    (¬ m_letterMany ≤ m_readAt →
      vp_in m_readAt 120 ∧
      (¬ (m_text m_readAt.toNatClampNeg) = (32 : Int32) →
        wp_X9_next_b38 m_letterMany m_text Q  m_readAt m_tokenAt m_token m_value) ∧
      ((m_text m_readAt.toNatClampNeg) = (32 : Int32) →
        ∀ x32_6 : Int32, x32_6 = (m_readAt + (1 : Int32)) →
        wp_X9_next_h0 m_letterMany m_text Q  n x32_6 m_tokenAt m_token m_value))
def wp_X9_next (m_letterMany : Int32) (m_text : Nat → Int32) (m_readAt : Int32) (m_tokenAt : Int32) (m_token : Int32) (m_value : Int32) (Q : Int32 → Int32 → Int32 → Int32 → Prop) : Prop :=
  ∃ n0, wp_X9_next_h0 m_letterMany m_text Q  n0 m_readAt m_tokenAt m_token m_value
def wp_X9_fails (m_tokenAt : Int32) (m_faultAt : Int32) (Q : Int32 → Int32 → Prop) : Prop :=
  Q (0 : Int32) m_tokenAt
def wp_X9_number_b35 (m_letterMany : Int32) (m_text : Nat → Int32) (Q : Int32 → Int32 → Int32 → Int32 → Int32 → Int32 → Prop) (k0 : Int32) (m_readAt : Int32) (m_tokenAt : Int32) (m_token : Int32) (m_value : Int32) (m_faultAt : Int32) : Prop :=
  (k0 = 0 ∨ k0 = 1) ∧
  Q k0 m_readAt m_tokenAt m_token m_value m_faultAt
def wp_X9_number_b30 (m_letterMany : Int32) (m_text : Nat → Int32) (Q : Int32 → Int32 → Int32 → Int32 → Int32 → Int32 → Prop) (m_readAt : Int32) (m_tokenAt : Int32) (m_token : Int32) (m_value : Int32) (m_faultAt : Int32) : Prop :=
  wp_X9_number_b35 m_letterMany m_text Q  (1 : Int32) m_readAt m_tokenAt m_token m_value m_faultAt
def wp_X9_number_b23 (m_letterMany : Int32) (m_text : Nat → Int32) (Q : Int32 → Int32 → Int32 → Int32 → Int32 → Int32 → Prop) (m_readAt : Int32) (m_tokenAt : Int32) (m_token : Int32) (m_value : Int32) (m_faultAt : Int32) : Prop :=
  wp_X9_fails m_tokenAt m_faultAt (fun r24_2 m_faultAt_24_1 =>
    (r24_2 = 0 →
      wp_X9_number_b35 m_letterMany m_text Q  (0 : Int32) m_readAt m_tokenAt m_token m_value m_faultAt_24_1) ∧
    (¬ r24_2 = 0 →
      wp_X9_number_b30 m_letterMany m_text Q  m_readAt m_tokenAt m_token m_value m_faultAt_24_1))
def wp_X9_number (m_letterMany : Int32) (m_text : Nat → Int32) (m_readAt : Int32) (m_tokenAt : Int32) (m_token : Int32) (m_value : Int32) (m_faultAt : Int32) (p1 : Int32) (p2 : Int32) (Q : Int32 → Int32 → Int32 → Int32 → Int32 → Int32 → Prop) : Prop :=
  wp_X9_next m_letterMany m_text m_readAt m_tokenAt m_token m_value (fun m_readAt_1_3 m_tokenAt_1_4 m_token_1_5 m_value_1_6 =>
    (¬ m_token_1_5 = 0 →
      wp_X9_number_b23 m_letterMany m_text Q  m_readAt_1_3 m_tokenAt_1_4 m_token_1_5 m_value_1_6 m_faultAt) ∧
    (m_token_1_5 = 0 →
      wp_X9_in m_value_1_6 p1 p2 (fun r17_7 =>
        (¬ r17_7 = 0 →
          wp_X9_number_b30 m_letterMany m_text Q  m_readAt_1_3 m_tokenAt_1_4 m_token_1_5 m_value_1_6 m_faultAt) ∧
        (r17_7 = 0 →
          wp_X9_number_b23 m_letterMany m_text Q  m_readAt_1_3 m_tokenAt_1_4 m_token_1_5 m_value_1_6 m_faultAt))))
def wp_X9_ends_b25 (m_letterMany : Int32) (m_text : Nat → Int32) (Q : Int32 → Int32 → Int32 → Int32 → Int32 → Int32 → Prop) (k0 : Int32) (m_readAt : Int32) (m_tokenAt : Int32) (m_token : Int32) (m_value : Int32) (m_faultAt : Int32) : Prop :=
  (k0 = 0 ∨ k0 = 1) ∧
  Q k0 m_readAt m_tokenAt m_token m_value m_faultAt
def wp_X9_ends_b20 (m_letterMany : Int32) (m_text : Nat → Int32) (Q : Int32 → Int32 → Int32 → Int32 → Int32 → Int32 → Prop) (m_readAt : Int32) (m_tokenAt : Int32) (m_token : Int32) (m_value : Int32) (m_faultAt : Int32) : Prop :=
  wp_X9_ends_b25 m_letterMany m_text Q  (1 : Int32) m_readAt m_tokenAt m_token m_value m_faultAt
def wp_X9_ends (m_letterMany : Int32) (m_text : Nat → Int32) (m_readAt : Int32) (m_tokenAt : Int32) (m_token : Int32) (m_value : Int32) (m_faultAt : Int32) (Q : Int32 → Int32 → Int32 → Int32 → Int32 → Int32 → Prop) : Prop :=
  wp_X9_next m_letterMany m_text m_readAt m_tokenAt m_token m_value (fun m_readAt_1_1 m_tokenAt_1_2 m_token_1_3 m_value_1_4 =>
    (m_token_1_3 = (59 : Int32) →
      wp_X9_ends_b20 m_letterMany m_text Q  m_readAt_1_1 m_tokenAt_1_2 m_token_1_3 m_value_1_4 m_faultAt) ∧
    (¬ m_token_1_3 = (59 : Int32) →
      wp_X9_fails m_tokenAt_1_2 m_faultAt (fun r14_6 m_faultAt_14_5 =>
        (r14_6 = 0 →
          wp_X9_ends_b25 m_letterMany m_text Q  (0 : Int32) m_readAt_1_1 m_tokenAt_1_2 m_token_1_3 m_value_1_4 m_faultAt_14_5) ∧
        (¬ r14_6 = 0 →
          wp_X9_ends_b20 m_letterMany m_text Q  m_readAt_1_1 m_tokenAt_1_2 m_token_1_3 m_value_1_4 m_faultAt_14_5))))
def wp_X9_comes_b74 (N : Nat) (Q : Int32 → (Nat → Int32) → Prop) (v1 : Int32) (v2 : Int32) (v3 : Int32) (v4 : Int32) (f_row : Nat → Int32) : Prop :=
  vp_in ((3 : Int32) + v4) N ∧
  vp_in ((13 : Int32) + v4) N ∧
  vp_in ((23 : Int32) + v4) N ∧
  vp_in (0 : Int32) N ∧
  ∀ x100_1 : Int32, x100_1 = ((upd (upd (upd f_row ((3 : Int32) + v4).toNatClampNeg v1) ((13 : Int32) + v4).toNatClampNeg v2) ((23 : Int32) + v4).toNatClampNeg v3) (0 : Int32).toNatClampNeg) →
  ∀ x103_2 : Int32, x103_2 = (x100_1 + (1 : Int32)) →
  vp_in (0 : Int32) N ∧
  Q v4 (upd (upd (upd (upd f_row ((3 : Int32) + v4).toNatClampNeg v1) ((13 : Int32) + v4).toNatClampNeg v2) ((23 : Int32) + v4).toNatClampNeg v3) (0 : Int32).toNatClampNeg x103_2)
def wp_X9_comes_h5 (N : Nat) (Q : Int32 → (Nat → Int32) → Prop) : Nat → Int32 → Int32 → Int32 → Int32 → (Nat → Int32) → Prop
  | 0 => fun _ _ _ _ _ => False
  | n + 1 => fun v1 v2 v3 v4 f_row =>
    (v4 ≤ 0 →
      wp_X9_comes_b74 N Q  v1 v2 v3 v4 f_row) ∧
    (¬ v4 ≤ 0 →
      vp_in (((3 : Int32) + v4) - (1 : Int32)) N ∧
      ((f_row (((3 : Int32) + v4) - (1 : Int32)).toNatClampNeg) ≤ v1 →
        wp_X9_comes_b74 N Q  v1 v2 v3 v4 f_row) ∧
      (¬ (f_row (((3 : Int32) + v4) - (1 : Int32)).toNatClampNeg) ≤ v1 →
        vp_in (((3 : Int32) + v4) - (1 : Int32)) N ∧
        ∀ x35_3 : Int32, x35_3 = (f_row (((3 : Int32) + v4) - (1 : Int32)).toNatClampNeg) →
        vp_in ((3 : Int32) + v4) N ∧
        vp_in (((13 : Int32) + v4) - (1 : Int32)) N ∧
        ∀ x50_4 : Int32, x50_4 = ((upd f_row ((3 : Int32) + v4).toNatClampNeg x35_3) (((13 : Int32) + v4) - (1 : Int32)).toNatClampNeg) →
        vp_in ((13 : Int32) + v4) N ∧
        vp_in (((23 : Int32) + v4) - (1 : Int32)) N ∧
        ∀ x66_5 : Int32, x66_5 = ((upd (upd f_row ((3 : Int32) + v4).toNatClampNeg x35_3) ((13 : Int32) + v4).toNatClampNeg x50_4) (((23 : Int32) + v4) - (1 : Int32)).toNatClampNeg) →
        vp_in ((23 : Int32) + v4) N ∧
        ∀ x68_6 : Int32, x68_6 = v4 + (-1) →
        wp_X9_comes_h5 N Q  n v1 v2 v3 x68_6 (upd (upd (upd f_row ((3 : Int32) + v4).toNatClampNeg x35_3) ((13 : Int32) + v4).toNatClampNeg x50_4) ((23 : Int32) + v4).toNatClampNeg x66_5)))
def wp_X9_comes (N : Nat) (f_row : Nat → Int32) (p1 : Int32) (p2 : Int32) (p3 : Int32) (Q : Int32 → (Nat → Int32) → Prop) : Prop :=
  vp_in (0 : Int32) N ∧
  ∀ x3_7 : Int32, x3_7 = (f_row (0 : Int32).toNatClampNeg) →
  ∃ n5, wp_X9_comes_h5 N Q  n5 p1 p2 p3 x3_7 f_row
def wp_X9_readsReading (m_letterMany : Int32) (m_text : Nat → Int32) (m_readAt : Int32) (m_tokenAt : Int32) (m_token : Int32) (m_value : Int32) (m_faultAt : Int32) (m_read : Nat → Int32) (Q : Int32 → Int32 → Int32 → Int32 → Int32 → Int32 → (Nat → Int32) → Prop) : Prop :=
  (¬ (m_read (0 : Int32).toNatClampNeg) = (10 : Int32) →
    wp_X9_number m_letterMany m_text m_readAt m_tokenAt m_token m_value m_faultAt (0 : Int32) (999 : Int32) (fun r21_6 m_readAt_21_1 m_tokenAt_21_2 m_token_21_3 m_value_21_4 m_faultAt_21_5 =>
      (¬ r21_6 = 0 →
        wp_X9_number m_letterMany m_text m_readAt_21_1 m_tokenAt_21_2 m_token_21_3 m_value_21_4 m_faultAt_21_5 (0 : Int32) (9999 : Int32) (fun r39_12 m_readAt_39_7 m_tokenAt_39_8 m_token_39_9 m_value_39_10 m_faultAt_39_11 =>
          (¬ r39_12 = 0 →
            wp_X9_number m_letterMany m_text m_readAt_39_7 m_tokenAt_39_8 m_token_39_9 m_value_39_10 m_faultAt_39_11 (1 : Int32) (9 : Int32) (fun r56_18 m_readAt_56_13 m_tokenAt_56_14 m_token_56_15 m_value_56_16 m_faultAt_56_17 =>
              (¬ r56_18 = 0 →
                wp_X9_ends m_letterMany m_text m_readAt_56_13 m_tokenAt_56_14 m_token_56_15 m_value_56_16 m_faultAt_56_17 (fun r70_24 m_readAt_70_19 m_tokenAt_70_20 m_token_70_21 m_value_70_22 m_faultAt_70_23 =>
                  (¬ r70_24 = 0 →
                    wp_X9_comes 33 m_read m_value_21_4 m_value_39_10 m_value_56_16 (fun r85_26 f_row_85_25 =>
                      Q (1 : Int32) m_readAt_70_19 m_tokenAt_70_20 m_token_70_21 m_value_70_22 m_faultAt_70_23 f_row_85_25)) ∧
                  (r70_24 = 0 →
                    Q (0 : Int32) m_readAt_70_19 m_tokenAt_70_20 m_token_70_21 m_value_70_22 m_faultAt_70_23 m_read))) ∧
              (r56_18 = 0 →
                Q (0 : Int32) m_readAt_56_13 m_tokenAt_56_14 m_token_56_15 m_value_56_16 m_faultAt_56_17 m_read))) ∧
          (r39_12 = 0 →
            Q (0 : Int32) m_readAt_39_7 m_tokenAt_39_8 m_token_39_9 m_value_39_10 m_faultAt_39_11 m_read))) ∧
      (r21_6 = 0 →
        Q (0 : Int32) m_readAt_21_1 m_tokenAt_21_2 m_token_21_3 m_value_21_4 m_faultAt_21_5 m_read))) ∧
  ((m_read (0 : Int32).toNatClampNeg) = (10 : Int32) →
    wp_X9_fails m_tokenAt m_faultAt (fun r12_28 m_faultAt_12_27 =>
      (r12_28 = 0 ∨ r12_28 = 1) ∧
      Q r12_28 m_readAt m_tokenAt m_token m_value m_faultAt_12_27 m_read))
def wp_X9_plate1_b41 (m_letterMany : Int32) (m_text : Nat → Int32) (Q : Int32 → Int32 → Int32 → Int32 → Int32 → Int32 → Prop) (k0 : Int32) (m_readAt : Int32) (m_tokenAt : Int32) (m_token : Int32) (m_value : Int32) (m_faultAt : Int32) : Prop :=
  (k0 = 0 ∨ k0 = 1) ∧
  Q k0 m_readAt m_tokenAt m_token m_value m_faultAt
def wp_X9_plate1_b36 (m_letterMany : Int32) (m_text : Nat → Int32) (Q : Int32 → Int32 → Int32 → Int32 → Int32 → Int32 → Prop) (m_readAt : Int32) (m_tokenAt : Int32) (m_token : Int32) (m_value : Int32) (m_faultAt : Int32) : Prop :=
  wp_X9_plate1_b41 m_letterMany m_text Q  (1 : Int32) m_readAt m_tokenAt m_token m_value m_faultAt
def wp_X9_plate1 (m_letterMany : Int32) (m_text : Nat → Int32) (m_readAt : Int32) (m_tokenAt : Int32) (m_token : Int32) (m_value : Int32) (m_faultAt : Int32) (Q : Int32 → Int32 → Int32 → Int32 → Int32 → Int32 → Prop) : Prop :=
  wp_X9_next m_letterMany m_text m_readAt m_tokenAt m_token m_value (fun m_readAt_1_1 m_tokenAt_1_2 m_token_1_3 m_value_1_4 =>
    ∀ x12_5 : Int32, x12_5 = (m_token_1_3 - (97 : Int32)) →
    wp_X9_in m_token_1_3 (97 : Int32) (104 : Int32) (fun r23_6 =>
      (¬ r23_6 = 0 →
        wp_X9_plate1_b36 m_letterMany m_text Q  m_readAt_1_1 m_tokenAt_1_2 m_token_1_3 x12_5 m_faultAt) ∧
      (r23_6 = 0 →
        wp_X9_fails m_tokenAt_1_2 m_faultAt (fun r30_8 m_faultAt_30_7 =>
          (r30_8 = 0 →
            wp_X9_plate1_b41 m_letterMany m_text Q  (0 : Int32) m_readAt_1_1 m_tokenAt_1_2 m_token_1_3 x12_5 m_faultAt_30_7) ∧
          (¬ r30_8 = 0 →
            wp_X9_plate1_b36 m_letterMany m_text Q  m_readAt_1_1 m_tokenAt_1_2 m_token_1_3 x12_5 m_faultAt_30_7)))))
def wp_X9_readsChange_b157 (m_letterMany : Int32) (m_text : Nat → Int32) (Q : Int32 → Int32 → Int32 → Int32 → Int32 → Int32 → Int32 → (Nat → Int32) → (Nat → Int32) → (Nat → Int32) → Prop) (v1 : Int32) (v2 : Int32) (v3 : Int32) (v4 : Int32) (m_readAt : Int32) (m_tokenAt : Int32) (m_token : Int32) (m_value : Int32) (m_faultAt : Int32) (m_readChanges : Int32) (m_readDays : Nat → Int32) (m_readWas : Nat → Int32) (m_readThen : Nat → Int32) : Prop :=
  vp_in v4 6 ∧
  vp_in v4 6 ∧
  vp_in v4 6 ∧
  ∀ x188_1 : Int32, x188_1 = (m_readChanges + (1 : Int32)) →
  Q (1 : Int32) m_readAt m_tokenAt m_token m_value m_faultAt x188_1 (upd m_readDays v4.toNatClampNeg v1) (upd m_readWas v4.toNatClampNeg v2) (upd m_readThen v4.toNatClampNeg v3)
def wp_X9_readsChange_h85 (m_letterMany : Int32) (m_text : Nat → Int32) (Q : Int32 → Int32 → Int32 → Int32 → Int32 → Int32 → Int32 → (Nat → Int32) → (Nat → Int32) → (Nat → Int32) → Prop) : Nat → Int32 → Int32 → Int32 → Int32 → Int32 → Int32 → Int32 → Int32 → Int32 → Int32 → (Nat → Int32) → (Nat → Int32) → (Nat → Int32) → Prop
  | 0 => fun _ _ _ _ _ _ _ _ _ _ _ _ _ => False
  | n + 1 => fun v1 v2 v3 v4 m_readAt m_tokenAt m_token m_value m_faultAt m_readChanges m_readDays m_readWas m_readThen =>
    (v4 ≤ 0 →
      wp_X9_readsChange_b157 m_letterMany m_text Q  v1 v2 v3 v4 m_readAt m_tokenAt m_token m_value m_faultAt m_readChanges m_readDays m_readWas m_readThen) ∧
    (¬ v4 ≤ 0 →
      vp_in (v4 - (1 : Int32)) 6 ∧
      ((m_readDays (v4 - (1 : Int32)).toNatClampNeg) ≤ v1 →
        wp_X9_readsChange_b157 m_letterMany m_text Q  v1 v2 v3 v4 m_readAt m_tokenAt m_token m_value m_faultAt m_readChanges m_readDays m_readWas m_readThen) ∧
      (¬ (m_readDays (v4 - (1 : Int32)).toNatClampNeg) ≤ v1 →
        vp_in (v4 - (1 : Int32)) 6 ∧
        ∀ x118_2 : Int32, x118_2 = (m_readDays (v4 - (1 : Int32)).toNatClampNeg) →
        vp_in v4 6 ∧
        vp_in (v4 - (1 : Int32)) 6 ∧
        ∀ x134_3 : Int32, x134_3 = (m_readWas (v4 - (1 : Int32)).toNatClampNeg) →
        vp_in v4 6 ∧
        vp_in (v4 - (1 : Int32)) 6 ∧
        ∀ x150_4 : Int32, x150_4 = (m_readThen (v4 - (1 : Int32)).toNatClampNeg) →
        vp_in v4 6 ∧
        ∀ x151_5 : Int32, x151_5 = v4 + (-1) →
        wp_X9_readsChange_h85 m_letterMany m_text Q  n v1 v2 v3 x151_5 m_readAt m_tokenAt m_token m_value m_faultAt m_readChanges (upd m_readDays v4.toNatClampNeg x118_2) (upd m_readWas v4.toNatClampNeg x134_3) (upd m_readThen v4.toNatClampNeg x150_4)))
def wp_X9_readsChange (m_letterMany : Int32) (m_text : Nat → Int32) (m_readAt : Int32) (m_tokenAt : Int32) (m_token : Int32) (m_value : Int32) (m_faultAt : Int32) (m_readChanges : Int32) (m_readDays : Nat → Int32) (m_readWas : Nat → Int32) (m_readThen : Nat → Int32) (Q : Int32 → Int32 → Int32 → Int32 → Int32 → Int32 → Int32 → (Nat → Int32) → (Nat → Int32) → (Nat → Int32) → Prop) : Prop :=
  (¬ m_readChanges = (6 : Int32) →
    wp_X9_number m_letterMany m_text m_readAt m_tokenAt m_token m_value m_faultAt (0 : Int32) (999 : Int32) (fun r19_11 m_readAt_19_6 m_tokenAt_19_7 m_token_19_8 m_value_19_9 m_faultAt_19_10 =>
      (¬ r19_11 = 0 →
        wp_X9_plate1 m_letterMany m_text m_readAt_19_6 m_tokenAt_19_7 m_token_19_8 m_value_19_9 m_faultAt_19_10 (fun r33_17 m_readAt_33_12 m_tokenAt_33_13 m_token_33_14 m_value_33_15 m_faultAt_33_16 =>
          (¬ r33_17 = 0 →
            wp_X9_plate1 m_letterMany m_text m_readAt_33_12 m_tokenAt_33_13 m_token_33_14 m_value_33_15 m_faultAt_33_16 (fun r47_23 m_readAt_47_18 m_tokenAt_47_19 m_token_47_20 m_value_47_21 m_faultAt_47_22 =>
              (¬ r47_23 = 0 →
                (¬ m_value_47_21 = m_value_33_15 →
                  wp_X9_ends m_letterMany m_text m_readAt_47_18 m_tokenAt_47_19 m_token_47_20 m_value_47_21 m_faultAt_47_22 (fun r71_29 m_readAt_71_24 m_tokenAt_71_25 m_token_71_26 m_value_71_27 m_faultAt_71_28 =>
                    (¬ r71_29 = 0 →
                      ∃ n85, wp_X9_readsChange_h85 m_letterMany m_text Q  n85 m_value_19_9 m_value_33_15 m_value_47_21 m_readChanges m_readAt_71_24 m_tokenAt_71_25 m_token_71_26 m_value_71_27 m_faultAt_71_28 m_readChanges m_readDays m_readWas m_readThen) ∧
                    (r71_29 = 0 →
                      Q (0 : Int32) m_readAt_71_24 m_tokenAt_71_25 m_token_71_26 m_value_71_27 m_faultAt_71_28 m_readChanges m_readDays m_readWas m_readThen))) ∧
                (m_value_47_21 = m_value_33_15 →
                  wp_X9_fails m_tokenAt_47_19 m_faultAt_47_22 (fun r66_31 m_faultAt_66_30 =>
                    (r66_31 = 0 ∨ r66_31 = 1) ∧
                    Q r66_31 m_readAt_47_18 m_tokenAt_47_19 m_token_47_20 m_value_47_21 m_faultAt_66_30 m_readChanges m_readDays m_readWas m_readThen))) ∧
              (r47_23 = 0 →
                Q (0 : Int32) m_readAt_47_18 m_tokenAt_47_19 m_token_47_20 m_value_47_21 m_faultAt_47_22 m_readChanges m_readDays m_readWas m_readThen))) ∧
          (r33_17 = 0 →
            Q (0 : Int32) m_readAt_33_12 m_tokenAt_33_13 m_token_33_14 m_value_33_15 m_faultAt_33_16 m_readChanges m_readDays m_readWas m_readThen))) ∧
      (r19_11 = 0 →
        Q (0 : Int32) m_readAt_19_6 m_tokenAt_19_7 m_token_19_8 m_value_19_9 m_faultAt_19_10 m_readChanges m_readDays m_readWas m_readThen))) ∧
  (m_readChanges = (6 : Int32) →
    wp_X9_fails m_tokenAt m_faultAt (fun r10_33 m_faultAt_10_32 =>
      (r10_33 = 0 ∨ r10_33 = 1) ∧
      Q r10_33 m_readAt m_tokenAt m_token m_value m_faultAt_10_32 m_readChanges m_readDays m_readWas m_readThen))
def wp_X9_has_b14 (Q : Int32 → Prop) (k0 : Int32) : Prop :=
  (k0 = 0 ∨ k0 = 1) ∧
  Q k0
def wp_X9_has (p0 : Int32) (p1 : Int32) (Q : Int32 → Prop) : Prop :=
  (¬ ((p0 >>> (p1 &&& 31)) &&& (1 : Int32)) = (1 : Int32) →
    wp_X9_has_b14 Q  (0 : Int32)) ∧
  (((p0 >>> (p1 &&& 31)) &&& (1 : Int32)) = (1 : Int32) →
    wp_X9_has_b14 Q  (1 : Int32))
def wp_X9_isWrap_b21 (Q : Int32 → Prop) (k0 : Int32) : Prop :=
  (k0 = 0 ∨ k0 = 1) ∧
  Q k0
def wp_X9_isWrap_b16 (Q : Int32 → Prop)  : Prop :=
  wp_X9_isWrap_b21 Q  (1 : Int32)
def wp_X9_isWrap (p0 : Int32) (Q : Int32 → Prop) : Prop :=
  (p0 = 0 →
    wp_X9_isWrap_b16 Q  ) ∧
  (¬ p0 = 0 →
    wp_X9_in p0 (100 : Int32) (9999 : Int32) (fun r10_1 =>
      (r10_1 = 0 →
        wp_X9_isWrap_b21 Q  (0 : Int32)) ∧
      (¬ r10_1 = 0 →
        wp_X9_isWrap_b16 Q  )))
def wp_X9_readsOnce_b150 (m_letterMany : Int32) (m_text : Nat → Int32) (Q : Int32 → Int32 → Int32 → Int32 → Int32 → Int32 → (Nat → Int32) → Int32 → Int32 → Prop) (k0 : Int32) (m_readAt : Int32) (m_tokenAt : Int32) (m_token : Int32) (m_value : Int32) (m_faultAt : Int32) (m_read : Nat → Int32) (m_readStart : Int32) (m_readOnce : Int32) : Prop :=
  wp_X9_ends m_letterMany m_text m_readAt m_tokenAt m_token m_value m_faultAt (fun r154_6 m_readAt_154_1 m_tokenAt_154_2 m_token_154_3 m_value_154_4 m_faultAt_154_5 =>
    (r154_6 = 0 ∨ r154_6 = 1) ∧
    Q r154_6 m_readAt_154_1 m_tokenAt_154_2 m_token_154_3 m_value_154_4 m_faultAt_154_5 m_read k0 m_readOnce)
def wp_X9_readsOnce_b135 (m_letterMany : Int32) (m_text : Nat → Int32) (Q : Int32 → Int32 → Int32 → Int32 → Int32 → Int32 → (Nat → Int32) → Int32 → Int32 → Prop) (k0 : Int32) (k1 : Int32) (v1 : Int32) (v2 : Int32) (m_readAt : Int32) (m_tokenAt : Int32) (m_token : Int32) (m_value : Int32) (m_faultAt : Int32) (m_read : Nat → Int32) (m_readStart : Int32) (m_readOnce : Int32) : Prop :=
  vp_in k1 33 ∧
  (¬ v1 = (2 : Int32) →
    wp_X9_readsOnce_b150 m_letterMany m_text Q  m_readStart m_readAt m_tokenAt m_token m_value m_faultAt (upd m_read k1.toNatClampNeg k0) m_readStart m_readOnce) ∧
  (v1 = (2 : Int32) →
    wp_X9_readsOnce_b150 m_letterMany m_text Q  v2 m_readAt m_tokenAt m_token m_value m_faultAt (upd m_read k1.toNatClampNeg k0) m_readStart m_readOnce)
def wp_X9_readsOnce_b114 (m_letterMany : Int32) (m_text : Nat → Int32) (Q : Int32 → Int32 → Int32 → Int32 → Int32 → Int32 → (Nat → Int32) → Int32 → Int32 → Prop) (k0 : Int32) (k1 : Int32) (v1 : Int32) (v2 : Int32) (m_readAt : Int32) (m_tokenAt : Int32) (m_token : Int32) (m_value : Int32) (m_faultAt : Int32) (m_read : Nat → Int32) (m_readStart : Int32) (m_readOnce : Int32) : Prop :=
  vp_in k1 33 ∧
  (¬ v1 = (1 : Int32) →
    wp_X9_readsOnce_b135 m_letterMany m_text Q  ((upd m_read k1.toNatClampNeg k0) (2 : Int32).toNatClampNeg) (2 : Int32) v1 v2 m_readAt m_tokenAt m_token m_value m_faultAt (upd m_read k1.toNatClampNeg k0) m_readStart m_readOnce) ∧
  (v1 = (1 : Int32) →
    wp_X9_readsOnce_b135 m_letterMany m_text Q  v2 (2 : Int32) v1 v2 m_readAt m_tokenAt m_token m_value m_faultAt (upd m_read k1.toNatClampNeg k0) m_readStart m_readOnce)
def wp_X9_readsOnce_b95 (m_letterMany : Int32) (m_text : Nat → Int32) (Q : Int32 → Int32 → Int32 → Int32 → Int32 → Int32 → (Nat → Int32) → Int32 → Int32 → Prop) (v1 : Int32) (v2 : Int32) (m_readAt : Int32) (m_tokenAt : Int32) (m_token : Int32) (m_value : Int32) (m_faultAt : Int32) (m_read : Nat → Int32) (m_readStart : Int32) (m_readOnce : Int32) : Prop :=
  (¬ v1 = 0 →
    wp_X9_readsOnce_b114 m_letterMany m_text Q  (m_read (1 : Int32).toNatClampNeg) (1 : Int32) v1 v2 m_readAt m_tokenAt m_token m_value m_faultAt m_read m_readStart m_readOnce) ∧
  (v1 = 0 →
    wp_X9_readsOnce_b114 m_letterMany m_text Q  v2 (1 : Int32) v1 v2 m_readAt m_tokenAt m_token m_value m_faultAt m_read m_readStart m_readOnce)
def wp_X9_readsOnce_b73 (m_letterMany : Int32) (m_text : Nat → Int32) (Q : Int32 → Int32 → Int32 → Int32 → Int32 → Int32 → (Nat → Int32) → Int32 → Int32 → Prop) (v1 : Int32) (m_readAt : Int32) (m_tokenAt : Int32) (m_token : Int32) (m_value : Int32) (m_faultAt : Int32) (m_read : Nat → Int32) (m_readStart : Int32) (m_readOnce : Int32) : Prop :=
  (¬ v1 = (1 : Int32) →
    wp_X9_readsOnce_b95 m_letterMany m_text Q  v1 m_value m_readAt m_tokenAt m_token m_value m_faultAt m_read m_readStart m_readOnce) ∧
  (v1 = (1 : Int32) →
    wp_X9_isWrap m_value (fun r84_7 =>
      (¬ r84_7 = 0 →
        wp_X9_readsOnce_b95 m_letterMany m_text Q  v1 m_value m_readAt m_tokenAt m_token m_value m_faultAt m_read m_readStart m_readOnce) ∧
      (r84_7 = 0 →
        wp_X9_fails m_tokenAt m_faultAt (fun r91_9 m_faultAt_91_8 =>
          (r91_9 = 0 ∨ r91_9 = 1) ∧
          Q r91_9 m_readAt m_tokenAt m_token m_value m_faultAt_91_8 m_read m_readStart m_readOnce))))
def wp_X9_readsOnce_b71 (m_letterMany : Int32) (m_text : Nat → Int32) (Q : Int32 → Int32 → Int32 → Int32 → Int32 → Int32 → (Nat → Int32) → Int32 → Int32 → Prop) (m_readAt : Int32) (m_tokenAt : Int32) (m_token : Int32) (m_value : Int32) (m_faultAt : Int32) (m_read : Nat → Int32) (m_readStart : Int32) (m_readOnce : Int32) : Prop :=
  Q (0 : Int32) m_readAt m_tokenAt m_token m_value m_faultAt m_read m_readStart m_readOnce
def wp_X9_readsOnce (m_letterMany : Int32) (m_text : Nat → Int32) (m_readAt : Int32) (m_tokenAt : Int32) (m_token : Int32) (m_value : Int32) (m_faultAt : Int32) (m_read : Nat → Int32) (m_readStart : Int32) (m_readOnce : Int32) (p1 : Int32) (Q : Int32 → Int32 → Int32 → Int32 → Int32 → Int32 → (Nat → Int32) → Int32 → Int32 → Prop) : Prop :=
  wp_X9_has m_readOnce p1 (fun r5_10 =>
    (r5_10 = 0 →
      ∀ x25_11 : Int32, x25_11 = (m_readOnce ||| ((1 : Int32) <<< (p1 &&& 31))) →
      (¬ p1 = 0 →
        (¬ p1 = (1 : Int32) →
          wp_X9_plate1 m_letterMany m_text m_readAt m_tokenAt m_token m_value m_faultAt (fun r65_17 m_readAt_65_12 m_tokenAt_65_13 m_token_65_14 m_value_65_15 m_faultAt_65_16 =>
            (¬ r65_17 = 0 →
              wp_X9_readsOnce_b73 m_letterMany m_text Q  p1 m_readAt_65_12 m_tokenAt_65_13 m_token_65_14 m_value_65_15 m_faultAt_65_16 m_read m_readStart x25_11) ∧
            (r65_17 = 0 →
              wp_X9_readsOnce_b71 m_letterMany m_text Q  m_readAt_65_12 m_tokenAt_65_13 m_token_65_14 m_value_65_15 m_faultAt_65_16 m_read m_readStart x25_11))) ∧
        (p1 = (1 : Int32) →
          wp_X9_number m_letterMany m_text m_readAt m_tokenAt m_token m_value m_faultAt (0 : Int32) (9999 : Int32) (fun r55_23 m_readAt_55_18 m_tokenAt_55_19 m_token_55_20 m_value_55_21 m_faultAt_55_22 =>
            (r55_23 = 0 →
              wp_X9_readsOnce_b71 m_letterMany m_text Q  m_readAt_55_18 m_tokenAt_55_19 m_token_55_20 m_value_55_21 m_faultAt_55_22 m_read m_readStart x25_11) ∧
            (¬ r55_23 = 0 →
              wp_X9_readsOnce_b73 m_letterMany m_text Q  p1 m_readAt_55_18 m_tokenAt_55_19 m_token_55_20 m_value_55_21 m_faultAt_55_22 m_read m_readStart x25_11)))) ∧
      (p1 = 0 →
        wp_X9_number m_letterMany m_text m_readAt m_tokenAt m_token m_value m_faultAt (1 : Int32) (99 : Int32) (fun r36_29 m_readAt_36_24 m_tokenAt_36_25 m_token_36_26 m_value_36_27 m_faultAt_36_28 =>
          (r36_29 = 0 →
            wp_X9_readsOnce_b71 m_letterMany m_text Q  m_readAt_36_24 m_tokenAt_36_25 m_token_36_26 m_value_36_27 m_faultAt_36_28 m_read m_readStart x25_11) ∧
          (¬ r36_29 = 0 →
            wp_X9_readsOnce_b73 m_letterMany m_text Q  p1 m_readAt_36_24 m_tokenAt_36_25 m_token_36_26 m_value_36_27 m_faultAt_36_28 m_read m_readStart x25_11)))) ∧
    (¬ r5_10 = 0 →
      wp_X9_fails m_tokenAt m_faultAt (fun r12_31 m_faultAt_12_30 =>
        (r12_31 = 0 ∨ r12_31 = 1) ∧
        Q r12_31 m_readAt m_tokenAt m_token m_value m_faultAt_12_30 m_read m_readStart m_readOnce)))
def wp_X9_readsItem (m_letterMany : Int32) (m_text : Nat → Int32) (m_readAt : Int32) (m_tokenAt : Int32) (m_token : Int32) (m_value : Int32) (m_faultAt : Int32) (m_read : Nat → Int32) (m_readChanges : Int32) (m_readStart : Int32) (m_readOnce : Int32) (m_readDays : Nat → Int32) (m_readWas : Nat → Int32) (m_readThen : Nat → Int32) (Q : Int32 → Int32 → Int32 → Int32 → Int32 → Int32 → (Nat → Int32) → Int32 → Int32 → Int32 → (Nat → Int32) → (Nat → Int32) → (Nat → Int32) → Prop) : Prop :=
  wp_X9_next m_letterMany m_text m_readAt m_tokenAt m_token m_value (fun m_readAt_1_1 m_tokenAt_1_2 m_token_1_3 m_value_1_4 =>
    (m_token_1_3 = 102 →
      wp_X9_readsOnce m_letterMany m_text m_readAt_1_1 m_tokenAt_1_2 m_token_1_3 m_value_1_4 m_faultAt m_read m_readStart m_readOnce (0 : Int32) (fun r72_13 m_readAt_72_5 m_tokenAt_72_6 m_token_72_7 m_value_72_8 m_faultAt_72_9 m_read_72_10 m_readStart_72_11 m_readOnce_72_12 =>
        (r72_13 = 0 ∨ r72_13 = 1) ∧
        Q r72_13 m_readAt_72_5 m_tokenAt_72_6 m_token_72_7 m_value_72_8 m_faultAt_72_9 m_read_72_10 m_readChanges m_readStart_72_11 m_readOnce_72_12 m_readDays m_readWas m_readThen)) ∧
    (m_token_1_3 = 111 →
      wp_X9_readsOnce m_letterMany m_text m_readAt_1_1 m_tokenAt_1_2 m_token_1_3 m_value_1_4 m_faultAt m_read m_readStart m_readOnce (2 : Int32) (fun r84_22 m_readAt_84_14 m_tokenAt_84_15 m_token_84_16 m_value_84_17 m_faultAt_84_18 m_read_84_19 m_readStart_84_20 m_readOnce_84_21 =>
        (r84_22 = 0 ∨ r84_22 = 1) ∧
        Q r84_22 m_readAt_84_14 m_tokenAt_84_15 m_token_84_16 m_value_84_17 m_faultAt_84_18 m_read_84_19 m_readChanges m_readStart_84_20 m_readOnce_84_21 m_readDays m_readWas m_readThen)) ∧
    (m_token_1_3 = 112 →
      wp_X9_readsChange m_letterMany m_text m_readAt_1_1 m_tokenAt_1_2 m_token_1_3 m_value_1_4 m_faultAt m_readChanges m_readDays m_readWas m_readThen (fun r66_32 m_readAt_66_23 m_tokenAt_66_24 m_token_66_25 m_value_66_26 m_faultAt_66_27 m_readChanges_66_28 m_readDays_66_29 m_readWas_66_30 m_readThen_66_31 =>
        (r66_32 = 0 ∨ r66_32 = 1) ∧
        Q r66_32 m_readAt_66_23 m_tokenAt_66_24 m_token_66_25 m_value_66_26 m_faultAt_66_27 m_read m_readChanges_66_28 m_readStart m_readOnce m_readDays_66_29 m_readWas_66_30 m_readThen_66_31)) ∧
    (m_token_1_3 = 114 →
      wp_X9_readsReading m_letterMany m_text m_readAt_1_1 m_tokenAt_1_2 m_token_1_3 m_value_1_4 m_faultAt m_read (fun r61_39 m_readAt_61_33 m_tokenAt_61_34 m_token_61_35 m_value_61_36 m_faultAt_61_37 m_read_61_38 =>
        (r61_39 = 0 ∨ r61_39 = 1) ∧
        Q r61_39 m_readAt_61_33 m_tokenAt_61_34 m_token_61_35 m_value_61_36 m_faultAt_61_37 m_read_61_38 m_readChanges m_readStart m_readOnce m_readDays m_readWas m_readThen)) ∧
    (m_token_1_3 = 119 →
      wp_X9_readsOnce m_letterMany m_text m_readAt_1_1 m_tokenAt_1_2 m_token_1_3 m_value_1_4 m_faultAt m_read m_readStart m_readOnce (1 : Int32) (fun r78_48 m_readAt_78_40 m_tokenAt_78_41 m_token_78_42 m_value_78_43 m_faultAt_78_44 m_read_78_45 m_readStart_78_46 m_readOnce_78_47 =>
        (r78_48 = 0 ∨ r78_48 = 1) ∧
        Q r78_48 m_readAt_78_40 m_tokenAt_78_41 m_token_78_42 m_value_78_43 m_faultAt_78_44 m_read_78_45 m_readChanges m_readStart_78_46 m_readOnce_78_47 m_readDays m_readWas m_readThen)) ∧
    (¬ m_token_1_3 = 102 → ¬ m_token_1_3 = 111 → ¬ m_token_1_3 = 112 → ¬ m_token_1_3 = 114 → ¬ m_token_1_3 = 119 →
      wp_X9_fails m_tokenAt_1_2 m_faultAt (fun r89_50 m_faultAt_89_49 =>
        (r89_50 = 0 ∨ r89_50 = 1) ∧
        Q r89_50 m_readAt_1_1 m_tokenAt_1_2 m_token_1_3 m_value_1_4 m_faultAt_89_49 m_read m_readChanges m_readStart m_readOnce m_readDays m_readWas m_readThen)))
def wp_X9_house_h11 (m_text : Nat → Int32) (Q : Int32 → Int32 → Int32 → Int32 → Int32 → Int32 → Int32 → (Nat → Int32) → Int32 → Int32 → Int32 → (Nat → Int32) → (Nat → Int32) → (Nat → Int32) → (Nat → Int32) → Int32 → Int32 → (Nat → Int32) → (Nat → Int32) → (Nat → Int32) → Int32 → (Nat → Int32) → Int32 → Prop) : Nat → Int32 → Int32 → Int32 → Int32 → Int32 → Int32 → Int32 → (Nat → Int32) → Int32 → Int32 → Int32 → (Nat → Int32) → (Nat → Int32) → (Nat → Int32) → (Nat → Int32) → Int32 → Int32 → (Nat → Int32) → (Nat → Int32) → (Nat → Int32) → Int32 → (Nat → Int32) → Int32 → Prop
  | 0 => fun _ _ _ _ _ _ _ _ _ _ _ _ _ _ _ _ _ _ _ _ _ _ _ => False
  | n + 1 => fun v1 m_letterMany m_readAt m_tokenAt m_token m_value m_faultAt m_read m_readChanges m_readStart m_readOnce m_readDays m_readWas m_readThen m_now m_changeMany m_start m_changeDays m_was m_then m_undoMany m_isKept m_isKnown =>
    wp_X9_isMore m_letterMany m_text m_readAt (fun r12_2 m_readAt_12_1 =>
      (r12_2 = 0 →
        wp_X9_tellsAll m_read m_readChanges m_readStart m_readDays m_readWas m_readThen m_now m_changeMany m_start m_changeDays m_was m_then m_undoMany m_isKept m_isKnown (fun m_now_40_3 m_changeMany_40_4 m_start_40_5 m_changeDays_40_6 m_was_40_7 m_then_40_8 m_undoMany_40_9 m_isKept_40_10 m_isKnown_40_11 =>
          Q v1 (0 : Int32) m_readAt_12_1 m_tokenAt m_token m_value m_faultAt m_read m_readChanges m_readStart m_readOnce m_readDays m_readWas m_readThen m_now_40_3 m_changeMany_40_4 m_start_40_5 m_changeDays_40_6 m_was_40_7 m_then_40_8 m_undoMany_40_9 m_isKept_40_10 m_isKnown_40_11)) ∧
      (¬ r12_2 = 0 →
        wp_X9_readsItem m_letterMany m_text m_readAt_12_1 m_tokenAt m_token m_value m_faultAt m_read m_readChanges m_readStart m_readOnce m_readDays m_readWas m_readThen (fun r19_24 m_readAt_19_12 m_tokenAt_19_13 m_token_19_14 m_value_19_15 m_faultAt_19_16 m_read_19_17 m_readChanges_19_18 m_readStart_19_19 m_readOnce_19_20 m_readDays_19_21 m_readWas_19_22 m_readThen_19_23 =>
          (¬ r19_24 = 0 →
            ∀ x33_25 : Int32, x33_25 = v1 + 1 →
            wp_X9_house_h11 m_text Q  n x33_25 m_letterMany m_readAt_19_12 m_tokenAt_19_13 m_token_19_14 m_value_19_15 m_faultAt_19_16 m_read_19_17 m_readChanges_19_18 m_readStart_19_19 m_readOnce_19_20 m_readDays_19_21 m_readWas_19_22 m_readThen_19_23 m_now m_changeMany m_start m_changeDays m_was m_then m_undoMany m_isKept m_isKnown) ∧
          (r19_24 = 0 →
            Q ((-10 : Int32) - m_faultAt_19_16) m_letterMany m_readAt_19_12 m_tokenAt_19_13 m_token_19_14 m_value_19_15 m_faultAt_19_16 m_read_19_17 m_readChanges_19_18 m_readStart_19_19 m_readOnce_19_20 m_readDays_19_21 m_readWas_19_22 m_readThen_19_23 m_now m_changeMany m_start m_changeDays m_was m_then m_undoMany m_isKept m_isKnown))))
def wp_X9_house (m_text : Nat → Int32) (m_letterMany : Int32) (m_readAt : Int32) (m_tokenAt : Int32) (m_token : Int32) (m_value : Int32) (m_faultAt : Int32) (m_read : Nat → Int32) (m_readChanges : Int32) (m_readStart : Int32) (m_readOnce : Int32) (m_readDays : Nat → Int32) (m_readWas : Nat → Int32) (m_readThen : Nat → Int32) (m_now : Nat → Int32) (m_changeMany : Int32) (m_start : Int32) (m_changeDays : Nat → Int32) (m_was : Nat → Int32) (m_then : Nat → Int32) (m_undoMany : Int32) (m_isKept : Nat → Int32) (m_isKnown : Int32) (Q : Int32 → Int32 → Int32 → Int32 → Int32 → Int32 → Int32 → (Nat → Int32) → Int32 → Int32 → Int32 → (Nat → Int32) → (Nat → Int32) → (Nat → Int32) → (Nat → Int32) → Int32 → Int32 → (Nat → Int32) → (Nat → Int32) → (Nat → Int32) → Int32 → (Nat → Int32) → Int32 → Prop) : Prop :=
  wp_X9_begins m_read m_readChanges m_readStart m_readOnce (fun m_read_1_26 m_readChanges_1_27 m_readStart_1_28 m_readOnce_1_29 =>
    ∃ n11, wp_X9_house_h11 m_text Q  n11 (0 : Int32) m_letterMany (0 : Int32) m_tokenAt m_token m_value m_faultAt m_read_1_26 m_readChanges_1_27 m_readStart_1_28 m_readOnce_1_29 m_readDays m_readWas m_readThen m_now m_changeMany m_start m_changeDays m_was m_then m_undoMany m_isKept m_isKnown)
def wp_X6_slipOf (p0 : Int32) (Q : Int32 → Prop) : Prop :=
  Q ((p0 / (4 : Int32)) - (p0 / (4 : Int32)) / (2 : Int32) * (2 : Int32))
def wp_X5_howKept_b24 (r_firsts : Nat → Int32) (Q : Int32 → Prop) (k0 : Int32) : Prop :=
  Q k0
def wp_X5_howKept (r_firsts : Nat → Int32) (p1 : Int32) (Q : Int32 → Prop) : Prop :=
  vp_in p1 10 ∧
  (¬ (r_firsts p1.toNatClampNeg) = 0 →
    vp_in p1 10 ∧
    wp_X6_slipOf (r_firsts p1.toNatClampNeg) (fun r20_1 =>
      wp_X5_howKept_b24 r_firsts Q  ((1 : Int32) + r20_1))) ∧
  ((r_firsts p1.toNatClampNeg) = 0 →
    wp_X5_howKept_b24 r_firsts Q  (0 : Int32))
def wp_X5_farOf_b28 (s_fars : Nat → Int32) (r_firsts : Nat → Int32) (Q : Int32 → Prop) (k0 : Int32) : Prop :=
  Q k0
def wp_X5_farOf (s_fars : Nat → Int32) (r_firsts : Nat → Int32) (p1 : Int32) (Q : Int32 → Prop) : Prop :=
  vp_in p1 10 ∧
  (¬ (r_firsts p1.toNatClampNeg) = 0 →
    vp_in p1 10 ∧
    vp_in (r_firsts p1.toNatClampNeg) 88 ∧
    wp_X5_farOf_b28 s_fars r_firsts Q  (s_fars (r_firsts p1.toNatClampNeg).toNatClampNeg)) ∧
  ((r_firsts p1.toNatClampNeg) = 0 →
    wp_X5_farOf_b28 s_fars r_firsts Q  (-9 : Int32))
def wp_X5_reasonOf (r_reasons : Nat → Int32) (p1 : Int32) (Q : Int32 → Prop) : Prop :=
  vp_in p1 10 ∧
  Q (r_reasons p1.toNatClampNeg)
def wp_X8_reading (e_days : Nat → Int32) (e_firsts : Nat → Int32) (e_seconds : Nat → Int32) (e_size : Int32) (s_fars : Nat → Int32) (r_firsts : Nat → Int32) (r_reasons : Nat → Int32) (p1 : Int32) (p2 : Int32) (Q : Int32 → Prop) : Prop :=
  wp_X0_has 10 e_size p1 (fun r8_1 =>
    (¬ r8_1 = 0 →
      (p2.toInt < 0 ∨ 5 < p2.toInt →
        Q (-1 : Int32)) ∧
      (p2 = 0 →
        vp_in p1 10 ∧
        Q (e_days p1.toNatClampNeg)) ∧
      (p2 = 1 →
        vp_in p1 10 ∧
        Q (e_firsts p1.toNatClampNeg)) ∧
      (p2 = 2 →
        vp_in p1 10 ∧
        Q (e_seconds p1.toNatClampNeg)) ∧
      (p2 = 3 →
        wp_X5_howKept r_firsts p1 (fun r100_2 =>
          Q r100_2)) ∧
      (p2 = 4 →
        wp_X5_farOf s_fars r_firsts p1 (fun r109_3 =>
          Q r109_3)) ∧
      (p2 = 5 →
        wp_X5_reasonOf r_reasons p1 (fun r118_4 =>
          Q r118_4))) ∧
    (r8_1 = 0 →
      Q (-1 : Int32)))
def wp_X9_isReading (m_now : Nat → Int32) (p1 : Int32) (Q : Int32 → Prop) : Prop :=
  wp_X9_in p1 (0 : Int32) ((m_now (0 : Int32).toNatClampNeg) - (1 : Int32)) (fun r10_1 =>
    (r10_1 = 0 ∨ r10_1 = 1) ∧
    Q r10_1)
def wp_X9_power_h4 (Q : Int32 → Prop) : Nat → Int32 → Int32 → Int32 → Prop
  | 0 => fun _ _ _ => False
  | n + 1 => fun v0 v1 v2 =>
    (v0 ≤ v2 →
      Q v1) ∧
    (¬ v0 ≤ v2 →
      ∀ x12_1 : Int32, x12_1 = (v1 * (3 : Int32)) →
      ∀ x13_2 : Int32, x13_2 = v2 + 1 →
      wp_X9_power_h4 Q  n v0 x12_1 x13_2)
def wp_X9_power (p0 : Int32) (Q : Int32 → Prop) : Prop :=
  ∃ n4, wp_X9_power_h4 Q  n4 p0 (1 : Int32) (0 : Int32)
def wp_X9_countOf_b31 (m_now : Nat → Int32) (Q : Int32 → Prop) (k0 : Int32) : Prop :=
  Q k0
def wp_X9_countOf (m_now : Nat → Int32) (p1 : Int32) (p2 : Int32) (Q : Int32 → Prop) : Prop :=
  (¬ p2 = (1 : Int32) →
    vp_in ((13 : Int32) + p1) 33 ∧
    wp_X9_countOf_b31 m_now Q  (m_now ((13 : Int32) + p1).toNatClampNeg)) ∧
  (p2 = (1 : Int32) →
    vp_in ((13 : Int32) + p1) 33 ∧
    wp_X9_countOf_b31 m_now Q  (((m_now ((13 : Int32) + p1).toNatClampNeg) * (5 : Int32)) / (8 : Int32)))
def wp_X9_farBehind_b53 (m_now : Nat → Int32) (Q : Int32 → Prop) (k0 : Int32) : Prop :=
  Q k0
def wp_X9_farBehind_b40 (m_now : Nat → Int32) (Q : Int32 → Prop) (v3 : Int32) (v4 : Int32) : Prop :=
  (v3 ≤ v4 →
    wp_X9_farBehind_b53 m_now Q  v4) ∧
  (¬ v3 ≤ v4 →
    wp_X9_farBehind_b53 m_now Q  (-9 : Int32))
def wp_X9_farBehind_h11 (m_now : Nat → Int32) (Q : Int32 → Prop) : Nat → Int32 → Int32 → Int32 → Prop
  | 0 => fun _ _ _ => False
  | n + 1 => fun v3 v4 v5 =>
    ((3 : Int32) ≤ v5 →
      wp_X9_farBehind_b40 m_now Q  v3 v4) ∧
    (¬ (3 : Int32) ≤ v5 →
      (v3 ≤ v4 →
        wp_X9_farBehind_b40 m_now Q  v3 v4) ∧
      (¬ v3 ≤ v4 →
        ∀ x32_1 : Int32, x32_1 = (v4 + (m_now (2 : Int32).toNatClampNeg)) →
        ∀ x34_2 : Int32, x34_2 = v5 + 1 →
        wp_X9_farBehind_h11 m_now Q  n v3 x32_1 x34_2))
def wp_X9_farBehind (m_now : Nat → Int32) (p1 : Int32) (p2 : Int32) (p3 : Int32) (Q : Int32 → Prop) : Prop :=
  wp_X9_countOf m_now p1 p2 (fun r3_3 =>
    ∃ n11, wp_X9_farBehind_h11 m_now Q  n11 p3 r3_3 (0 : Int32))
def wp_X9_goodOf_b246 (m_now : Nat → Int32) (Q : Int32 → Int32 → Int32 → Int32 → Prop) (K51 : Int32 → Int32 → Int32 → Int32 → Int32 → Int32 → Int32 → Int32 → Prop) (v2 : Int32) (v4 : Int32) (v5 : Int32) (v6 : Int32) (v7 : Int32) (m_setKept : Int32) (m_lastKept : Int32) (m_lastFar : Int32) : Prop :=
  ∀ x246_1 : Int32, x246_1 = v7 + 1 →
  K51 v2 v4 v5 v6 x246_1 m_setKept m_lastKept m_lastFar
def wp_X9_goodOf_b218 (m_now : Nat → Int32) (Q : Int32 → Int32 → Int32 → Int32 → Prop) (K51 : Int32 → Int32 → Int32 → Int32 → Int32 → Int32 → Int32 → Int32 → Prop) (k0 : Int32) (k1 : Int32) (v2 : Int32) (v4 : Int32) (v5 : Int32) (v7 : Int32) (v9 : Int32) (m_setKept : Int32) (m_lastKept : Int32) (m_lastFar : Int32) : Prop :=
  ∀ x219_2 : Int32, x219_2 = (k1 + k0) →
  ∀ x231_3 : Int32, x231_3 = (m_setKept ||| ((1 : Int32) <<< (v7 &&& 31))) →
  wp_X9_goodOf_b246 m_now Q K51 v2 v4 v5 x219_2 v7 x231_3 v7 v9
def wp_X9_goodOf_b176 (m_now : Nat → Int32) (Q : Int32 → Int32 → Int32 → Int32 → Prop) (K51 : Int32 → Int32 → Int32 → Int32 → Int32 → Int32 → Int32 → Int32 → Prop) (k0 : Int32) (v2 : Int32) (v4 : Int32) (v5 : Int32) (v6 : Int32) (v7 : Int32) (v8 : Int32) (v9 : Int32) (m_setKept : Int32) (m_lastKept : Int32) (m_lastFar : Int32) : Prop :=
  (¬ k0 = 0 →
    (¬ v8 = 0 →
      vp_in ((23 : Int32) + v7) 33 ∧
      wp_X9_goodOf_b218 m_now Q K51 (m_now ((23 : Int32) + v7).toNatClampNeg) v6 v2 v4 v5 v7 v9 m_setKept m_lastKept m_lastFar) ∧
    (v8 = 0 →
      vp_in ((23 : Int32) + v7) 33 ∧
      wp_X9_goodOf_b218 m_now Q K51 ((2 : Int32) * (m_now ((23 : Int32) + v7).toNatClampNeg)) v6 v2 v4 v5 v7 v9 m_setKept m_lastKept m_lastFar)) ∧
  (k0 = 0 →
    Q (-9 : Int32) m_setKept m_lastKept m_lastFar)
def wp_X9_goodOf_b175 (m_now : Nat → Int32) (Q : Int32 → Int32 → Int32 → Int32 → Prop) (K51 : Int32 → Int32 → Int32 → Int32 → Int32 → Int32 → Int32 → Int32 → Prop) (v2 : Int32) (v4 : Int32) (v5 : Int32) (v6 : Int32) (v7 : Int32) (v8 : Int32) (v9 : Int32) (m_setKept : Int32) (m_lastKept : Int32) (m_lastFar : Int32) : Prop :=
  wp_X9_goodOf_b176 m_now Q K51 (0 : Int32) v2 v4 v5 v6 v7 v8 v9 m_setKept m_lastKept m_lastFar
def wp_X9_goodOf_b171 (m_now : Nat → Int32) (Q : Int32 → Int32 → Int32 → Int32 → Prop) (K51 : Int32 → Int32 → Int32 → Int32 → Int32 → Int32 → Int32 → Int32 → Prop) (v2 : Int32) (v4 : Int32) (v5 : Int32) (v6 : Int32) (v7 : Int32) (v8 : Int32) (v9 : Int32) (m_setKept : Int32) (m_lastKept : Int32) (m_lastFar : Int32) : Prop :=
  wp_X9_goodOf_b176 m_now Q K51 (1 : Int32) v2 v4 v5 v6 v7 v8 v9 m_setKept m_lastKept m_lastFar
def wp_X9_goodOf_b115 (m_now : Nat → Int32) (Q : Int32 → Int32 → Int32 → Int32 → Prop) (K51 : Int32 → Int32 → Int32 → Int32 → Int32 → Int32 → Int32 → Int32 → Prop) (k0 : Int32) (v2 : Int32) (v4 : Int32) (v5 : Int32) (v6 : Int32) (v7 : Int32) (v8 : Int32) (m_setKept : Int32) (m_lastKept : Int32) (m_lastFar : Int32) : Prop :=
  (k0 = (-9 : Int32) →
    wp_X9_goodOf_b175 m_now Q K51 v2 v4 v5 v6 v7 v8 k0 m_setKept m_lastKept m_lastFar) ∧
  (¬ k0 = (-9 : Int32) →
    (m_lastKept = (-9 : Int32) →
      wp_X9_goodOf_b171 m_now Q K51 v2 v4 v5 v6 v7 v8 k0 m_setKept m_lastKept m_lastFar) ∧
    (¬ m_lastKept = (-9 : Int32) →
      vp_in ((3 : Int32) + v7) 33 ∧
      vp_in ((3 : Int32) + m_lastKept) 33 ∧
      ∀ x166_4 : Int32, x166_4 = ((m_now ((3 : Int32) + v7).toNatClampNeg) - (m_now ((3 : Int32) + m_lastKept).toNatClampNeg)) →
      (((m_now (1 : Int32).toNatClampNeg) * x166_4) < (k0 - m_lastFar) →
        wp_X9_goodOf_b175 m_now Q K51 v2 v4 v5 v6 v7 v8 k0 m_setKept m_lastKept m_lastFar) ∧
      (¬ ((m_now (1 : Int32).toNatClampNeg) * x166_4) < (k0 - m_lastFar) →
        wp_X9_goodOf_b171 m_now Q K51 v2 v4 v5 v6 v7 v8 k0 m_setKept m_lastKept m_lastFar)))
def wp_X9_goodOf_h51 (m_now : Nat → Int32) (Q : Int32 → Int32 → Int32 → Int32 → Prop) : Nat → Int32 → Int32 → Int32 → Int32 → Int32 → Int32 → Int32 → Int32 → Prop
  | 0 => fun _ _ _ _ _ _ _ _ => False
  | n + 1 => fun v2 v4 v5 v6 v7 m_setKept m_lastKept m_lastFar =>
    (v2 ≤ v7 →
      Q v6 m_setKept m_lastKept m_lastFar) ∧
    (¬ v2 ≤ v7 →
      ¬ v4 = 0 ∧
      ∀ x62_5 : Int32, x62_5 = (v5 / v4) →
      ¬ v4 = 0 ∧
      ∀ x69_6 : Int32, x69_6 = (v5 - v5 / v4 * v4) →
      ∀ x75_7 : Int32, x75_7 = (v4 / (3 : Int32)) →
      (x62_5 = (2 : Int32) →
        wp_X9_goodOf_b246 m_now Q (fun y0 y1 y2 y3 y4 y5 y6 y7 => wp_X9_goodOf_h51 m_now Q  n y0 y1 y2 y3 y4 y5 y6 y7) v2 x75_7 x69_6 v6 v7 m_setKept m_lastKept m_lastFar) ∧
      (¬ x62_5 = (2 : Int32) →
        (¬ m_lastKept = (-9 : Int32) →
          wp_X9_farBehind m_now v7 x62_5 m_lastFar (fun r112_8 =>
            wp_X9_goodOf_b115 m_now Q (fun y0 y1 y2 y3 y4 y5 y6 y7 => wp_X9_goodOf_h51 m_now Q  n y0 y1 y2 y3 y4 y5 y6 y7) r112_8 v2 x75_7 x69_6 v6 v7 x62_5 m_setKept m_lastKept m_lastFar)) ∧
        (m_lastKept = (-9 : Int32) →
          wp_X9_countOf m_now v7 x62_5 (fun r97_9 =>
            wp_X9_goodOf_b115 m_now Q (fun y0 y1 y2 y3 y4 y5 y6 y7 => wp_X9_goodOf_h51 m_now Q  n y0 y1 y2 y3 y4 y5 y6 y7) r97_9 v2 x75_7 x69_6 v6 v7 x62_5 m_setKept m_lastKept m_lastFar))))
def wp_X9_goodOf_b20 (m_now : Nat → Int32) (Q : Int32 → Int32 → Int32 → Int32 → Prop) (k0 : Int32) (v1 : Int32) (v2 : Int32) (m_setKept : Int32) (m_lastKept : Int32) (m_lastFar : Int32) : Prop :=
  wp_X9_power k0 (fun r20_10 =>
    ∃ n51, wp_X9_goodOf_h51 m_now Q  n51 v2 r20_10 v1 (0 : Int32) (0 : Int32) (0 : Int32) (-9 : Int32) (-9 : Int32))
def wp_X9_goodOf (m_now : Nat → Int32) (m_setKept : Int32) (m_lastKept : Int32) (m_lastFar : Int32) (p1 : Int32) (p2 : Int32) (Q : Int32 → Int32 → Int32 → Int32 → Prop) : Prop :=
  ∀ x6_11 : Int32, x6_11 = (m_now (0 : Int32).toNatClampNeg) →
  ((x6_11 - (1 : Int32)) ≤ 0 →
    wp_X9_goodOf_b20 m_now Q  (0 : Int32) p1 p2 m_setKept m_lastKept m_lastFar) ∧
  (¬ (x6_11 - (1 : Int32)) ≤ 0 →
    wp_X9_goodOf_b20 m_now Q  (x6_11 - (1 : Int32)) p1 p2 m_setKept m_lastKept m_lastFar)
def wp_X9_knows_b318 (m_now : Nat → Int32) (Q : Int32 → Int32 → Int32 → Int64 → Int32 → Int32 → (Nat → Int32) → Int32 → Int32 → Int32 → Prop) (K263 : Int32 → Int32 → Int32 → Int32 → Int32 → Int64 → Int32 → Int32 → (Nat → Int32) → Int32 → Int32 → Int32 → Prop) (K270 : Int32 → Int32 → Int32 → Int32 → Int32 → Int32 → Int64 → Int32 → Int32 → (Nat → Int32) → Int32 → Int32 → Int32 → Prop) (k0 : Int32) (k1 : Int32) (v1 : Int32) (v2 : Int32) (v3 : Int32) (m_isKnown : Int32) (m_best : Int32) (m_firstCode : Int32) (m_rivalMany : Int64) (m_certain : Int32) (m_possible : Int32) (m_goods : Nat → Int32) (m_setKept : Int32) (m_lastKept : Int32) (m_lastFar : Int32) : Prop :=
  vp_in k1 1024 ∧
  ∀ x319_1 : Int32, x319_1 = v3 + 1 →
  K270 v1 v2 x319_1 m_isKnown m_best m_firstCode m_rivalMany m_certain m_possible (upd m_goods k1.toNatClampNeg k0) m_setKept m_lastKept m_lastFar
def wp_X9_knows_h270 (m_now : Nat → Int32) (Q : Int32 → Int32 → Int32 → Int64 → Int32 → Int32 → (Nat → Int32) → Int32 → Int32 → Int32 → Prop) (K263 : Int32 → Int32 → Int32 → Int32 → Int32 → Int64 → Int32 → Int32 → (Nat → Int32) → Int32 → Int32 → Int32 → Prop) : Nat → Int32 → Int32 → Int32 → Int32 → Int32 → Int32 → Int64 → Int32 → Int32 → (Nat → Int32) → Int32 → Int32 → Int32 → Prop
  | 0 => fun _ _ _ _ _ _ _ _ _ _ _ _ _ => False
  | n + 1 => fun v1 v2 v3 m_isKnown m_best m_firstCode m_rivalMany m_certain m_possible m_goods m_setKept m_lastKept m_lastFar =>
    (((1 : Int32) <<< (v1 &&& 31)) ≤ v3 →
      ∀ x325_2 : Int32, x325_2 = v2 + 1 →
      K263 v1 x325_2 m_isKnown m_best m_firstCode m_rivalMany m_certain m_possible m_goods m_setKept m_lastKept m_lastFar) ∧
    (¬ ((1 : Int32) <<< (v1 &&& 31)) ≤ v3 →
      vp_in (v3 &&& (((1 : Int32) <<< (v2 &&& 31)) ^^^ (-1 : Int32))) 1024 ∧
      ∀ x289_3 : Int32, x289_3 = (m_goods (v3 &&& (((1 : Int32) <<< (v2 &&& 31)) ^^^ (-1 : Int32))).toNatClampNeg) →
      vp_in v3 1024 ∧
      (x289_3 ≤ (m_goods v3.toNatClampNeg) →
        vp_in v3 1024 ∧
        wp_X9_knows_b318 m_now Q K263 (fun y0 y1 y2 y3 y4 y5 y6 y7 y8 y9 y10 y11 y12 => wp_X9_knows_h270 m_now Q K263 n y0 y1 y2 y3 y4 y5 y6 y7 y8 y9 y10 y11 y12) (m_goods v3.toNatClampNeg) v3 v1 v2 v3 m_isKnown m_best m_firstCode m_rivalMany m_certain m_possible m_goods m_setKept m_lastKept m_lastFar) ∧
      (¬ x289_3 ≤ (m_goods v3.toNatClampNeg) →
        wp_X9_knows_b318 m_now Q K263 (fun y0 y1 y2 y3 y4 y5 y6 y7 y8 y9 y10 y11 y12 => wp_X9_knows_h270 m_now Q K263 n y0 y1 y2 y3 y4 y5 y6 y7 y8 y9 y10 y11 y12) x289_3 v3 v1 v2 v3 m_isKnown m_best m_firstCode m_rivalMany m_certain m_possible m_goods m_setKept m_lastKept m_lastFar))
def wp_X9_knows_h263 (m_now : Nat → Int32) (Q : Int32 → Int32 → Int32 → Int64 → Int32 → Int32 → (Nat → Int32) → Int32 → Int32 → Int32 → Prop) : Nat → Int32 → Int32 → Int32 → Int32 → Int32 → Int64 → Int32 → Int32 → (Nat → Int32) → Int32 → Int32 → Int32 → Prop
  | 0 => fun _ _ _ _ _ _ _ _ _ _ _ _ => False
  | n + 1 => fun v1 v2 m_isKnown m_best m_firstCode m_rivalMany m_certain m_possible m_goods m_setKept m_lastKept m_lastFar =>
    (v1 ≤ v2 →
      Q m_isKnown m_best m_firstCode m_rivalMany m_certain m_possible m_goods m_setKept m_lastKept m_lastFar) ∧
    (¬ v1 ≤ v2 →
      ∃ n270, wp_X9_knows_h270 m_now Q (fun y0 y1 y2 y3 y4 y5 y6 y7 y8 y9 y10 y11 => wp_X9_knows_h263 m_now Q  n y0 y1 y2 y3 y4 y5 y6 y7 y8 y9 y10 y11) n270 v1 v2 (0 : Int32) m_isKnown m_best m_firstCode m_rivalMany m_certain m_possible m_goods m_setKept m_lastKept m_lastFar)
def wp_X9_knows_b255 (m_now : Nat → Int32) (Q : Int32 → Int32 → Int32 → Int64 → Int32 → Int32 → (Nat → Int32) → Int32 → Int32 → Int32 → Prop) (K49 : Int32 → Int32 → Int32 → Int32 → Int32 → Int64 → Int32 → Int32 → (Nat → Int32) → Int32 → Int32 → Int32 → Prop) (v1 : Int32) (v2 : Int32) (m_isKnown : Int32) (m_best : Int32) (m_firstCode : Int32) (m_rivalMany : Int64) (m_certain : Int32) (m_possible : Int32) (m_goods : Nat → Int32) (m_setKept : Int32) (m_lastKept : Int32) (m_lastFar : Int32) : Prop :=
  ∀ x255_4 : Int32, x255_4 = v2 + 1 →
  K49 v1 x255_4 m_isKnown m_best m_firstCode m_rivalMany m_certain m_possible m_goods m_setKept m_lastKept m_lastFar
def wp_X9_knows_b254 (m_now : Nat → Int32) (Q : Int32 → Int32 → Int32 → Int64 → Int32 → Int32 → (Nat → Int32) → Int32 → Int32 → Int32 → Prop) (K49 : Int32 → Int32 → Int32 → Int32 → Int32 → Int64 → Int32 → Int32 → (Nat → Int32) → Int32 → Int32 → Int32 → Prop) (k0 : Int32) (k1 : Int32) (v1 : Int32) (v2 : Int32) (m_isKnown : Int32) (m_best : Int32) (m_firstCode : Int32) (m_rivalMany : Int64) (m_certain : Int32) (m_possible : Int32) (m_goods : Nat → Int32) (m_setKept : Int32) (m_lastKept : Int32) (m_lastFar : Int32) : Prop :=
  vp_in k1 1024 ∧
  wp_X9_knows_b255 m_now Q K49 v1 v2 m_isKnown m_best m_firstCode m_rivalMany m_certain m_possible (upd m_goods k1.toNatClampNeg k0) m_setKept m_lastKept m_lastFar
def wp_X9_knows_b220 (m_now : Nat → Int32) (Q : Int32 → Int32 → Int32 → Int64 → Int32 → Int32 → (Nat → Int32) → Int32 → Int32 → Int32 → Prop) (K49 : Int32 → Int32 → Int32 → Int32 → Int32 → Int64 → Int32 → Int32 → (Nat → Int32) → Int32 → Int32 → Int32 → Prop) (v1 : Int32) (v2 : Int32) (v3 : Int32) (m_isKnown : Int32) (m_best : Int32) (m_firstCode : Int32) (m_rivalMany : Int64) (m_certain : Int32) (m_possible : Int32) (m_goods : Nat → Int32) (m_setKept : Int32) (m_lastKept : Int32) (m_lastFar : Int32) : Prop :=
  vp_in m_setKept 1024 ∧
  (v3 ≤ (m_goods m_setKept.toNatClampNeg) →
    vp_in m_setKept 1024 ∧
    wp_X9_knows_b254 m_now Q K49 (m_goods m_setKept.toNatClampNeg) m_setKept v1 v2 m_isKnown m_best m_firstCode m_rivalMany m_certain m_possible m_goods m_setKept m_lastKept m_lastFar) ∧
  (¬ v3 ≤ (m_goods m_setKept.toNatClampNeg) →
    wp_X9_knows_b254 m_now Q K49 v3 m_setKept v1 v2 m_isKnown m_best m_firstCode m_rivalMany m_certain m_possible m_goods m_setKept m_lastKept m_lastFar)
def wp_X9_knows_b173 (m_now : Nat → Int32) (Q : Int32 → Int32 → Int32 → Int64 → Int32 → Int32 → (Nat → Int32) → Int32 → Int32 → Int32 → Prop) (K49 : Int32 → Int32 → Int32 → Int32 → Int32 → Int64 → Int32 → Int32 → (Nat → Int32) → Int32 → Int32 → Int32 → Prop) (k0 : Int32) (v1 : Int32) (v2 : Int32) (v3 : Int32) (m_isKnown : Int32) (m_best : Int32) (m_firstCode : Int32) (m_rivalMany : Int64) (m_certain : Int32) (m_possible : Int32) (m_goods : Nat → Int32) (m_setKept : Int32) (m_lastKept : Int32) (m_lastFar : Int32) : Prop :=
  (¬ v3 = k0 →
    wp_X9_knows_b220 m_now Q K49 v1 v2 v3 m_isKnown k0 m_firstCode m_rivalMany m_certain m_possible m_goods m_setKept m_lastKept m_lastFar) ∧
  (v3 = k0 →
    ∀ x191_5 : Int64, x191_5 = (m_rivalMany + (1 : Int64)) →
    ∀ x204_6 : Int32, x204_6 = (m_certain &&& m_setKept) →
    ∀ x217_7 : Int32, x217_7 = (m_possible ||| m_setKept) →
    wp_X9_knows_b220 m_now Q K49 v1 v2 v3 m_isKnown k0 m_firstCode x191_5 x204_6 x217_7 m_goods m_setKept m_lastKept m_lastFar)
def wp_X9_knows_b156 (m_now : Nat → Int32) (Q : Int32 → Int32 → Int32 → Int64 → Int32 → Int32 → (Nat → Int32) → Int32 → Int32 → Int32 → Prop) (K49 : Int32 → Int32 → Int32 → Int32 → Int32 → Int64 → Int32 → Int32 → (Nat → Int32) → Int32 → Int32 → Int32 → Prop) (k0 : Int32) (v1 : Int32) (v2 : Int32) (v3 : Int32) (v4 : Int32) (m_isKnown : Int32) (m_best : Int32) (m_firstCode : Int32) (m_rivalMany : Int64) (m_certain : Int32) (m_possible : Int32) (m_goods : Nat → Int32) (m_setKept : Int32) (m_lastKept : Int32) (m_lastFar : Int32) : Prop :=
  (v4 = 0 →
    wp_X9_knows_b173 m_now Q K49 m_best v1 v2 v3 m_isKnown m_best m_firstCode m_rivalMany m_certain k0 m_goods m_setKept m_lastKept m_lastFar) ∧
  (¬ v4 = 0 →
    wp_X9_knows_b173 m_now Q K49 v3 v1 v2 v3 m_isKnown m_best m_firstCode m_rivalMany m_certain k0 m_goods m_setKept m_lastKept m_lastFar)
def wp_X9_knows_b136 (m_now : Nat → Int32) (Q : Int32 → Int32 → Int32 → Int64 → Int32 → Int32 → (Nat → Int32) → Int32 → Int32 → Int32 → Prop) (K49 : Int32 → Int32 → Int32 → Int32 → Int32 → Int64 → Int32 → Int32 → (Nat → Int32) → Int32 → Int32 → Int32 → Prop) (k0 : Int32) (v1 : Int32) (v2 : Int32) (v3 : Int32) (v4 : Int32) (m_isKnown : Int32) (m_best : Int32) (m_firstCode : Int32) (m_rivalMany : Int64) (m_certain : Int32) (m_possible : Int32) (m_goods : Nat → Int32) (m_setKept : Int32) (m_lastKept : Int32) (m_lastFar : Int32) : Prop :=
  (v4 = 0 →
    wp_X9_knows_b156 m_now Q K49 m_possible v1 v2 v3 v4 m_isKnown m_best m_firstCode m_rivalMany k0 m_possible m_goods m_setKept m_lastKept m_lastFar) ∧
  (¬ v4 = 0 →
    wp_X9_knows_b156 m_now Q K49 m_setKept v1 v2 v3 v4 m_isKnown m_best m_firstCode m_rivalMany k0 m_possible m_goods m_setKept m_lastKept m_lastFar)
def wp_X9_knows_b116 (m_now : Nat → Int32) (Q : Int32 → Int32 → Int32 → Int64 → Int32 → Int32 → (Nat → Int32) → Int32 → Int32 → Int32 → Prop) (K49 : Int32 → Int32 → Int32 → Int32 → Int32 → Int64 → Int32 → Int32 → (Nat → Int32) → Int32 → Int32 → Int32 → Prop) (k0 : Int64) (v1 : Int32) (v2 : Int32) (v3 : Int32) (v4 : Int32) (m_isKnown : Int32) (m_best : Int32) (m_firstCode : Int32) (m_rivalMany : Int64) (m_certain : Int32) (m_possible : Int32) (m_goods : Nat → Int32) (m_setKept : Int32) (m_lastKept : Int32) (m_lastFar : Int32) : Prop :=
  (v4 = 0 →
    wp_X9_knows_b136 m_now Q K49 m_certain v1 v2 v3 v4 m_isKnown m_best m_firstCode k0 m_certain m_possible m_goods m_setKept m_lastKept m_lastFar) ∧
  (¬ v4 = 0 →
    wp_X9_knows_b136 m_now Q K49 m_setKept v1 v2 v3 v4 m_isKnown m_best m_firstCode k0 m_certain m_possible m_goods m_setKept m_lastKept m_lastFar)
def wp_X9_knows_b99 (m_now : Nat → Int32) (Q : Int32 → Int32 → Int32 → Int64 → Int32 → Int32 → (Nat → Int32) → Int32 → Int32 → Int32 → Prop) (K49 : Int32 → Int32 → Int32 → Int32 → Int32 → Int64 → Int32 → Int32 → (Nat → Int32) → Int32 → Int32 → Int32 → Prop) (k0 : Int32) (v1 : Int32) (v2 : Int32) (v3 : Int32) (v4 : Int32) (m_isKnown : Int32) (m_best : Int32) (m_firstCode : Int32) (m_rivalMany : Int64) (m_certain : Int32) (m_possible : Int32) (m_goods : Nat → Int32) (m_setKept : Int32) (m_lastKept : Int32) (m_lastFar : Int32) : Prop :=
  (v4 = 0 →
    wp_X9_knows_b116 m_now Q K49 m_rivalMany v1 v2 v3 v4 m_isKnown m_best k0 m_rivalMany m_certain m_possible m_goods m_setKept m_lastKept m_lastFar) ∧
  (¬ v4 = 0 →
    wp_X9_knows_b116 m_now Q K49 (0 : Int64) v1 v2 v3 v4 m_isKnown m_best k0 m_rivalMany m_certain m_possible m_goods m_setKept m_lastKept m_lastFar)
def wp_X9_knows_b83 (m_now : Nat → Int32) (Q : Int32 → Int32 → Int32 → Int64 → Int32 → Int32 → (Nat → Int32) → Int32 → Int32 → Int32 → Prop) (K49 : Int32 → Int32 → Int32 → Int32 → Int32 → Int64 → Int32 → Int32 → (Nat → Int32) → Int32 → Int32 → Int32 → Prop) (k0 : Int32) (v1 : Int32) (v2 : Int32) (v3 : Int32) (m_isKnown : Int32) (m_best : Int32) (m_firstCode : Int32) (m_rivalMany : Int64) (m_certain : Int32) (m_possible : Int32) (m_goods : Nat → Int32) (m_setKept : Int32) (m_lastKept : Int32) (m_lastFar : Int32) : Prop :=
  (k0 = 0 →
    wp_X9_knows_b99 m_now Q K49 m_firstCode v1 v2 v3 k0 m_isKnown m_best m_firstCode m_rivalMany m_certain m_possible m_goods m_setKept m_lastKept m_lastFar) ∧
  (¬ k0 = 0 →
    wp_X9_knows_b99 m_now Q K49 v2 v1 v2 v3 k0 m_isKnown m_best m_firstCode m_rivalMany m_certain m_possible m_goods m_setKept m_lastKept m_lastFar)
def wp_X9_knows_h49 (m_now : Nat → Int32) (Q : Int32 → Int32 → Int32 → Int64 → Int32 → Int32 → (Nat → Int32) → Int32 → Int32 → Int32 → Prop) : Nat → Int32 → Int32 → Int32 → Int32 → Int32 → Int64 → Int32 → Int32 → (Nat → Int32) → Int32 → Int32 → Int32 → Prop
  | 0 => fun _ _ _ _ _ _ _ _ _ _ _ _ => False
  | n + 1 => fun v1 v2 m_isKnown m_best m_firstCode m_rivalMany m_certain m_possible m_goods m_setKept m_lastKept m_lastFar =>
    wp_X9_power v1 (fun r51_8 =>
      (r51_8 ≤ v2 →
        ∃ n263, wp_X9_knows_h263 m_now Q  n263 v1 (0 : Int32) m_isKnown m_best m_firstCode m_rivalMany m_certain m_possible m_goods m_setKept m_lastKept m_lastFar) ∧
      (¬ r51_8 ≤ v2 →
        wp_X9_goodOf m_now m_setKept m_lastKept m_lastFar v2 v1 (fun r60_12 m_setKept_60_9 m_lastKept_60_10 m_lastFar_60_11 =>
          (r60_12 = (-9 : Int32) →
            wp_X9_knows_b255 m_now Q (fun y0 y1 y2 y3 y4 y5 y6 y7 y8 y9 y10 y11 => wp_X9_knows_h49 m_now Q  n y0 y1 y2 y3 y4 y5 y6 y7 y8 y9 y10 y11) v1 v2 m_isKnown m_best m_firstCode m_rivalMany m_certain m_possible m_goods m_setKept_60_9 m_lastKept_60_10 m_lastFar_60_11) ∧
          (¬ r60_12 = (-9 : Int32) →
            (r60_12 ≤ m_best →
              wp_X9_knows_b83 m_now Q (fun y0 y1 y2 y3 y4 y5 y6 y7 y8 y9 y10 y11 => wp_X9_knows_h49 m_now Q  n y0 y1 y2 y3 y4 y5 y6 y7 y8 y9 y10 y11) (0 : Int32) v1 v2 r60_12 m_isKnown m_best m_firstCode m_rivalMany m_certain m_possible m_goods m_setKept_60_9 m_lastKept_60_10 m_lastFar_60_11) ∧
            (¬ r60_12 ≤ m_best →
              wp_X9_knows_b83 m_now Q (fun y0 y1 y2 y3 y4 y5 y6 y7 y8 y9 y10 y11 => wp_X9_knows_h49 m_now Q  n y0 y1 y2 y3 y4 y5 y6 y7 y8 y9 y10 y11) (1 : Int32) v1 v2 r60_12 m_isKnown m_best m_firstCode m_rivalMany m_certain m_possible m_goods m_setKept_60_9 m_lastKept_60_10 m_lastFar_60_11)))))
def wp_X9_knows_h27 (m_now : Nat → Int32) (Q : Int32 → Int32 → Int32 → Int64 → Int32 → Int32 → (Nat → Int32) → Int32 → Int32 → Int32 → Prop) : Nat → Int32 → Int32 → Int32 → Int32 → Int32 → Int64 → Int32 → Int32 → (Nat → Int32) → Int32 → Int32 → Int32 → Prop
  | 0 => fun _ _ _ _ _ _ _ _ _ _ _ _ => False
  | n + 1 => fun v1 v2 m_isKnown m_best m_firstCode m_rivalMany m_certain m_possible m_goods m_setKept m_lastKept m_lastFar =>
    (((1 : Int32) <<< (v1 &&& 31)) ≤ v2 →
      ∃ n49, wp_X9_knows_h49 m_now Q  n49 v1 (0 : Int32) m_isKnown m_best m_firstCode m_rivalMany m_certain m_possible m_goods m_setKept m_lastKept m_lastFar) ∧
    (¬ ((1 : Int32) <<< (v1 &&& 31)) ≤ v2 →
      vp_in v2 1024 ∧
      ∀ x41_13 : Int32, x41_13 = v2 + 1 →
      wp_X9_knows_h27 m_now Q  n v1 x41_13 m_isKnown m_best m_firstCode m_rivalMany m_certain m_possible (upd m_goods v2.toNatClampNeg (0 : Int32)) m_setKept m_lastKept m_lastFar)
def wp_X9_knows (m_now : Nat → Int32) (m_isKnown : Int32) (m_best : Int32) (m_firstCode : Int32) (m_rivalMany : Int64) (m_certain : Int32) (m_possible : Int32) (m_goods : Nat → Int32) (m_setKept : Int32) (m_lastKept : Int32) (m_lastFar : Int32) (Q : Int32 → Int32 → Int32 → Int64 → Int32 → Int32 → (Nat → Int32) → Int32 → Int32 → Int32 → Prop) : Prop :=
  (m_isKnown = 0 →
    ∀ x19_14 : Int32, x19_14 = (m_now (0 : Int32).toNatClampNeg) →
    ∃ n27, wp_X9_knows_h27 m_now Q  n27 x19_14 (0 : Int32) (1 : Int32) (-1 : Int32) m_firstCode m_rivalMany m_certain m_possible m_goods m_setKept m_lastKept m_lastFar) ∧
  (¬ m_isKnown = 0 →
    Q m_isKnown m_best m_firstCode m_rivalMany m_certain m_possible m_goods m_setKept m_lastKept m_lastFar)
def wp_X9_how (m_now : Nat → Int32) (p1 : Int32) (p2 : Int32) (Q : Int32 → Prop) : Prop :=
  wp_X9_power (((m_now (0 : Int32).toNatClampNeg) - (1 : Int32)) - p2) (fun r11_1 =>
    ¬ r11_1 = 0 ∧
    Q ((p1 / r11_1) - (p1 / r11_1) / (3 : Int32) * (3 : Int32)))
def wp_X9_farOf_b29 (m_now : Nat → Int32) (m_firstCode : Int32) (Q : Int32 → Int32 → Int32 → Int32 → Prop) (k0 : Int32) (m_setKept : Int32) (m_lastKept : Int32) (m_lastFar : Int32) : Prop :=
  Q k0 m_setKept m_lastKept m_lastFar
def wp_X9_farOf (m_now : Nat → Int32) (m_firstCode : Int32) (m_setKept : Int32) (m_lastKept : Int32) (m_lastFar : Int32) (p1 : Int32) (Q : Int32 → Int32 → Int32 → Int32 → Prop) : Prop :=
  wp_X9_goodOf m_now m_setKept m_lastKept m_lastFar m_firstCode (p1 + (1 : Int32)) (fun r8_4 m_setKept_8_1 m_lastKept_8_2 m_lastFar_8_3 =>
    (¬ m_lastKept_8_2 = p1 →
      wp_X9_farOf_b29 m_now m_firstCode Q  (-9 : Int32) m_setKept_8_1 m_lastKept_8_2 m_lastFar_8_3) ∧
    (m_lastKept_8_2 = p1 →
      wp_X9_farOf_b29 m_now m_firstCode Q  m_lastFar_8_3 m_setKept_8_1 m_lastKept_8_2 m_lastFar_8_3))
def wp_X9_reasonOf_b98 (m_now : Nat → Int32) (m_firstCode : Int32) (Q : Int32 → Int32 → Int32 → Int32 → Prop) (k0 : Int32) (m_setKept : Int32) (m_lastKept : Int32) (m_lastFar : Int32) : Prop :=
  Q k0 m_setKept m_lastKept m_lastFar
def wp_X9_reasonOf (m_now : Nat → Int32) (m_firstCode : Int32) (m_setKept : Int32) (m_lastKept : Int32) (m_lastFar : Int32) (p1 : Int32) (Q : Int32 → Int32 → Int32 → Int32 → Prop) : Prop :=
  wp_X9_how m_now m_firstCode p1 (fun r6_1 =>
    (r6_1 = (2 : Int32) →
      wp_X9_goodOf m_now m_setKept m_lastKept m_lastFar m_firstCode p1 (fun r21_5 m_setKept_21_2 m_lastKept_21_3 m_lastFar_21_4 =>
        (¬ m_lastKept_21_3 = (-9 : Int32) →
          wp_X9_farBehind m_now p1 (0 : Int32) m_lastFar_21_4 (fun r43_6 =>
            (¬ r43_6 = (-9 : Int32) →
              vp_in ((3 : Int32) + p1) 33 ∧
              vp_in ((3 : Int32) + m_lastKept_21_3) 33 ∧
              ∀ x88_7 : Int32, x88_7 = ((m_now ((3 : Int32) + p1).toNatClampNeg) - (m_now ((3 : Int32) + m_lastKept_21_3).toNatClampNeg)) →
              ((r43_6 - m_lastFar_21_4) ≤ ((m_now (1 : Int32).toNatClampNeg) * x88_7) →
                wp_X9_reasonOf_b98 m_now m_firstCode Q  (3 : Int32) m_setKept_21_2 m_lastKept_21_3 m_lastFar_21_4) ∧
              (¬ (r43_6 - m_lastFar_21_4) ≤ ((m_now (1 : Int32).toNatClampNeg) * x88_7) →
                wp_X9_reasonOf_b98 m_now m_firstCode Q  (2 : Int32) m_setKept_21_2 m_lastKept_21_3 m_lastFar_21_4)) ∧
            (r43_6 = (-9 : Int32) →
              wp_X9_reasonOf_b98 m_now m_firstCode Q  (1 : Int32) m_setKept_21_2 m_lastKept_21_3 m_lastFar_21_4))) ∧
        (m_lastKept_21_3 = (-9 : Int32) →
          Q (3 : Int32) m_setKept_21_2 m_lastKept_21_3 m_lastFar_21_4))) ∧
    (¬ r6_1 = (2 : Int32) →
      Q (0 : Int32) m_setKept m_lastKept m_lastFar))
def wp_X9_reading_b17 (m_now : Nat → Int32) (Q : Int32 → Int32 → Int32 → Int32 → Int64 → Int32 → Int32 → (Nat → Int32) → Int32 → Int32 → Int32 → Prop) (m_isKnown : Int32) (m_best : Int32) (m_firstCode : Int32) (m_rivalMany : Int64) (m_certain : Int32) (m_possible : Int32) (m_goods : Nat → Int32) (m_setKept : Int32) (m_lastKept : Int32) (m_lastFar : Int32) : Prop :=
  Q (-1 : Int32) m_isKnown m_best m_firstCode m_rivalMany m_certain m_possible m_goods m_setKept m_lastKept m_lastFar
def wp_X9_reading (m_now : Nat → Int32) (m_isKnown : Int32) (m_best : Int32) (m_firstCode : Int32) (m_rivalMany : Int64) (m_certain : Int32) (m_possible : Int32) (m_goods : Nat → Int32) (m_setKept : Int32) (m_lastKept : Int32) (m_lastFar : Int32) (p1 : Int32) (p2 : Int32) (Q : Int32 → Int32 → Int32 → Int32 → Int64 → Int32 → Int32 → (Nat → Int32) → Int32 → Int32 → Int32 → Prop) : Prop :=
  wp_X9_isReading m_now p1 (fun r2_1 =>
    (r2_1 = 0 →
      wp_X9_reading_b17 m_now Q  m_isKnown m_best m_firstCode m_rivalMany m_certain m_possible m_goods m_setKept m_lastKept m_lastFar) ∧
    (¬ r2_1 = 0 →
      wp_X9_in p2 (0 : Int32) (5 : Int32) (fun r11_2 =>
        (¬ r11_2 = 0 →
          wp_X9_knows m_now m_isKnown m_best m_firstCode m_rivalMany m_certain m_possible m_goods m_setKept m_lastKept m_lastFar (fun m_isKnown_20_3 m_best_20_4 m_firstCode_20_5 m_rivalMany_20_6 m_certain_20_7 m_possible_20_8 m_goods_20_9 m_setKept_20_10 m_lastKept_20_11 m_lastFar_20_12 =>
            (p2.toInt < 0 ∨ 4 < p2.toInt →
              wp_X9_reasonOf m_now m_firstCode_20_5 m_setKept_20_10 m_lastKept_20_11 m_lastFar_20_12 p1 (fun r111_16 m_setKept_111_13 m_lastKept_111_14 m_lastFar_111_15 =>
                Q r111_16 m_isKnown_20_3 m_best_20_4 m_firstCode_20_5 m_rivalMany_20_6 m_certain_20_7 m_possible_20_8 m_goods_20_9 m_setKept_111_13 m_lastKept_111_14 m_lastFar_111_15)) ∧
            (p2 = 0 →
              vp_in ((3 : Int32) + p1) 33 ∧
              Q (m_now ((3 : Int32) + p1).toNatClampNeg) m_isKnown_20_3 m_best_20_4 m_firstCode_20_5 m_rivalMany_20_6 m_certain_20_7 m_possible_20_8 m_goods_20_9 m_setKept_20_10 m_lastKept_20_11 m_lastFar_20_12) ∧
            (p2 = 1 →
              vp_in ((13 : Int32) + p1) 33 ∧
              Q (m_now ((13 : Int32) + p1).toNatClampNeg) m_isKnown_20_3 m_best_20_4 m_firstCode_20_5 m_rivalMany_20_6 m_certain_20_7 m_possible_20_8 m_goods_20_9 m_setKept_20_10 m_lastKept_20_11 m_lastFar_20_12) ∧
            (p2 = 2 →
              vp_in ((23 : Int32) + p1) 33 ∧
              Q (m_now ((23 : Int32) + p1).toNatClampNeg) m_isKnown_20_3 m_best_20_4 m_firstCode_20_5 m_rivalMany_20_6 m_certain_20_7 m_possible_20_8 m_goods_20_9 m_setKept_20_10 m_lastKept_20_11 m_lastFar_20_12) ∧
            (p2 = 3 →
              wp_X9_how m_now m_firstCode_20_5 p1 (fun r95_17 =>
                Q ((r95_17 + (1 : Int32)) - (r95_17 + (1 : Int32)) / (3 : Int32) * (3 : Int32)) m_isKnown_20_3 m_best_20_4 m_firstCode_20_5 m_rivalMany_20_6 m_certain_20_7 m_possible_20_8 m_goods_20_9 m_setKept_20_10 m_lastKept_20_11 m_lastFar_20_12)) ∧
            (p2 = 4 →
              wp_X9_farOf m_now m_firstCode_20_5 m_setKept_20_10 m_lastKept_20_11 m_lastFar_20_12 p1 (fun r105_21 m_setKept_105_18 m_lastKept_105_19 m_lastFar_105_20 =>
                Q r105_21 m_isKnown_20_3 m_best_20_4 m_firstCode_20_5 m_rivalMany_20_6 m_certain_20_7 m_possible_20_8 m_goods_20_9 m_setKept_105_18 m_lastKept_105_19 m_lastFar_105_20)))) ∧
        (r11_2 = 0 →
          wp_X9_reading_b17 m_now Q  m_isKnown m_best m_firstCode m_rivalMany m_certain m_possible m_goods m_setKept m_lastKept m_lastFar))))
def wp_X8_change_b104 (p_held : Nat → Int32) (ce_days : Nat → Int32) (ce_firsts : Nat → Int32) (ce_seconds : Nat → Int32) (ce_size : Int32) (Q : Int32 → Prop) (k0 : Int32) : Prop :=
  Q k0
def wp_X8_change (p_held : Nat → Int32) (ce_days : Nat → Int32) (ce_firsts : Nat → Int32) (ce_seconds : Nat → Int32) (ce_size : Int32) (p1 : Int32) (p2 : Int32) (Q : Int32 → Prop) : Prop :=
  wp_X0_has 6 ce_size p1 (fun r8_1 =>
    (¬ r8_1 = 0 →
      (p2.toInt < 0 ∨ 3 < p2.toInt →
        Q (-1 : Int32)) ∧
      (p2 = 0 →
        vp_in p1 6 ∧
        Q (ce_days p1.toNatClampNeg)) ∧
      (p2 = 1 →
        vp_in p1 6 ∧
        Q (ce_firsts p1.toNatClampNeg)) ∧
      (p2 = 2 →
        vp_in p1 6 ∧
        Q (ce_seconds p1.toNatClampNeg)) ∧
      (p2 = 3 →
        vp_in p1 6 ∧
        ((p_held p1.toNatClampNeg) = 0 →
          wp_X8_change_b104 p_held ce_days ce_firsts ce_seconds ce_size Q  (0 : Int32)) ∧
        (¬ (p_held p1.toNatClampNeg) = 0 →
          wp_X8_change_b104 p_held ce_days ce_firsts ce_seconds ce_size Q  (1 : Int32)))) ∧
    (r8_1 = 0 →
      Q (-1 : Int32)))
def wp_X9_bits_h4 (Q : Int32 → Prop) : Nat → Int32 → Int32 → Prop
  | 0 => fun _ _ => False
  | n + 1 => fun v1 v2 =>
    (v2 = 0 →
      Q v1) ∧
    (¬ v2 = 0 →
      ∀ x8_1 : Int32, x8_1 = v1 + 1 →
      ∀ x16_2 : Int32, x16_2 = (v2 &&& (v2 - (1 : Int32))) →
      wp_X9_bits_h4 Q  n x8_1 x16_2)
def wp_X9_bits (p0 : Int32) (Q : Int32 → Prop) : Prop :=
  ∃ n4, wp_X9_bits_h4 Q  n4 (0 : Int32) p0
def wp_X9_held_b151 (m_changeMany : Int32) (m_start : Int32) (m_was : Nat → Int32) (m_then : Nat → Int32) (Q : Int32 → Prop) (K6 : Int32 → Int32 → Int32 → Prop) (k0 : Int32) (v1 : Int32) (v3 : Int32) : Prop :=
  ∀ x152_1 : Int32, x152_1 = v3 + 1 →
  K6 v1 k0 x152_1
def wp_X9_held_b136 (m_changeMany : Int32) (m_start : Int32) (m_was : Nat → Int32) (m_then : Nat → Int32) (Q : Int32 → Prop) (K6 : Int32 → Int32 → Int32 → Prop) (k0 : Int32) (v2 : Int32) (v3 : Int32) (v5 : Int32) (v7 : Int32) : Prop :=
  (v7 = 0 →
    wp_X9_held_b151 m_changeMany m_start m_was m_then Q K6 v2 k0 v3) ∧
  (¬ v7 = 0 →
    wp_X9_bits v5 (fun r144_2 =>
      wp_X9_held_b151 m_changeMany m_start m_was m_then Q K6 r144_2 k0 v3))
def wp_X9_held_b123 (m_changeMany : Int32) (m_start : Int32) (m_was : Nat → Int32) (m_then : Nat → Int32) (Q : Int32 → Prop) (K6 : Int32 → Int32 → Int32 → Prop) (k0 : Int32) (v1 : Int32) (v2 : Int32) (v3 : Int32) (v5 : Int32) : Prop :=
  (k0 = 0 →
    wp_X9_held_b136 m_changeMany m_start m_was m_then Q K6 v1 v2 v3 v5 k0) ∧
  (¬ k0 = 0 →
    wp_X9_held_b136 m_changeMany m_start m_was m_then Q K6 v5 v2 v3 v5 k0)
def wp_X9_held_b122 (m_changeMany : Int32) (m_start : Int32) (m_was : Nat → Int32) (m_then : Nat → Int32) (Q : Int32 → Prop) (K6 : Int32 → Int32 → Int32 → Prop) (v1 : Int32) (v2 : Int32) (v3 : Int32) (v5 : Int32) : Prop :=
  wp_X9_held_b123 m_changeMany m_start m_was m_then Q K6 (0 : Int32) v1 v2 v3 v5
def wp_X9_held_b98 (m_changeMany : Int32) (m_start : Int32) (m_was : Nat → Int32) (m_then : Nat → Int32) (Q : Int32 → Prop) (K6 : Int32 → Int32 → Int32 → Prop) (K31 : Int32 → Int32 → Int32 → Int32 → Int32 → Int32 → Int32 → Prop) (v1 : Int32) (v2 : Int32) (v3 : Int32) (v4 : Int32) (v5 : Int32) (v6 : Int32) (v7 : Int32) : Prop :=
  ∀ x98_3 : Int32, x98_3 = v7 + 1 →
  K31 v1 v2 v3 v4 v5 v6 x98_3
def wp_X9_held_b78 (m_changeMany : Int32) (m_start : Int32) (m_was : Nat → Int32) (m_then : Nat → Int32) (Q : Int32 → Prop) (K6 : Int32 → Int32 → Int32 → Prop) (K31 : Int32 → Int32 → Int32 → Int32 → Int32 → Int32 → Int32 → Prop) (k0 : Int32) (v1 : Int32) (v2 : Int32) (v3 : Int32) (v5 : Int32) (v7 : Int32) : Prop :=
  vp_in v7 6 ∧
  ∀ x87_4 : Int32, x87_4 = (m_then v7.toNatClampNeg) →
  ∀ x96_5 : Int32, x96_5 = (v5 ||| ((1 : Int32) <<< (v7 &&& 31))) →
  wp_X9_held_b98 m_changeMany m_start m_was m_then Q K6 K31 v1 v2 v3 x87_4 x96_5 k0 v7
def wp_X9_held_b77 (m_changeMany : Int32) (m_start : Int32) (m_was : Nat → Int32) (m_then : Nat → Int32) (Q : Int32 → Prop) (K6 : Int32 → Int32 → Int32 → Prop) (K31 : Int32 → Int32 → Int32 → Int32 → Int32 → Int32 → Int32 → Prop) (v1 : Int32) (v2 : Int32) (v3 : Int32) (v5 : Int32) (v7 : Int32) : Prop :=
  wp_X9_held_b78 m_changeMany m_start m_was m_then Q K6 K31 (0 : Int32) v1 v2 v3 v5 v7
def wp_X9_held_h31 (m_changeMany : Int32) (m_start : Int32) (m_was : Nat → Int32) (m_then : Nat → Int32) (Q : Int32 → Prop) (K6 : Int32 → Int32 → Int32 → Prop) : Nat → Int32 → Int32 → Int32 → Int32 → Int32 → Int32 → Int32 → Prop
  | 0 => fun _ _ _ _ _ _ _ => False
  | n + 1 => fun v1 v2 v3 v4 v5 v6 v7 =>
    (m_changeMany ≤ v7 →
      (v6 = 0 →
        wp_X9_held_b122 m_changeMany m_start m_was m_then Q K6 v1 v2 v3 v5) ∧
      (¬ v6 = 0 →
        wp_X9_bits v5 (fun r111_6 =>
          (r111_6 ≤ v2 →
            wp_X9_held_b122 m_changeMany m_start m_was m_then Q K6 v1 v2 v3 v5) ∧
          (¬ r111_6 ≤ v2 →
            wp_X9_held_b123 m_changeMany m_start m_was m_then Q K6 (1 : Int32) v1 v2 v3 v5)))) ∧
    (¬ m_changeMany ≤ v7 →
      wp_X9_has v3 ((m_changeMany - (1 : Int32)) - v7) (fun r50_7 =>
        (¬ r50_7 = 0 →
          wp_X9_held_b98 m_changeMany m_start m_was m_then Q K6 (fun y0 y1 y2 y3 y4 y5 y6 => wp_X9_held_h31 m_changeMany m_start m_was m_then Q K6 n y0 y1 y2 y3 y4 y5 y6) v1 v2 v3 v4 v5 v6 v7) ∧
        (r50_7 = 0 →
          (v6 = 0 →
            wp_X9_held_b77 m_changeMany m_start m_was m_then Q K6 (fun y0 y1 y2 y3 y4 y5 y6 => wp_X9_held_h31 m_changeMany m_start m_was m_then Q K6 n y0 y1 y2 y3 y4 y5 y6) v1 v2 v3 v5 v7) ∧
          (¬ v6 = 0 →
            vp_in v7 6 ∧
            (¬ (m_was v7.toNatClampNeg) = v4 →
              wp_X9_held_b77 m_changeMany m_start m_was m_then Q K6 (fun y0 y1 y2 y3 y4 y5 y6 => wp_X9_held_h31 m_changeMany m_start m_was m_then Q K6 n y0 y1 y2 y3 y4 y5 y6) v1 v2 v3 v5 v7) ∧
            ((m_was v7.toNatClampNeg) = v4 →
              wp_X9_held_b78 m_changeMany m_start m_was m_then Q K6 (fun y0 y1 y2 y3 y4 y5 y6 => wp_X9_held_h31 m_changeMany m_start m_was m_then Q K6 n y0 y1 y2 y3 y4 y5 y6) (1 : Int32) v1 v2 v3 v5 v7)))))
def wp_X9_held_h6 (m_changeMany : Int32) (m_start : Int32) (m_was : Nat → Int32) (m_then : Nat → Int32) (Q : Int32 → Prop) : Nat → Int32 → Int32 → Int32 → Prop
  | 0 => fun _ _ _ => False
  | n + 1 => fun v1 v2 v3 =>
    (((1 : Int32) <<< (m_changeMany &&& 31)) ≤ v3 →
      Q v1) ∧
    (¬ ((1 : Int32) <<< (m_changeMany &&& 31)) ≤ v3 →
      ∃ n31, wp_X9_held_h31 m_changeMany m_start m_was m_then Q (fun y0 y1 y2 => wp_X9_held_h6 m_changeMany m_start m_was m_then Q  n y0 y1 y2) n31 v1 v2 v3 m_start (0 : Int32) (1 : Int32) (0 : Int32))
def wp_X9_held (m_changeMany : Int32) (m_start : Int32) (m_was : Nat → Int32) (m_then : Nat → Int32) (Q : Int32 → Prop) : Prop :=
  ∃ n6, wp_X9_held_h6 m_changeMany m_start m_was m_then Q  n6 (0 : Int32) (-1 : Int32) (0 : Int32)
def wp_X9_change_b82 (m_changeMany : Int32) (m_start : Int32) (m_changeDays : Nat → Int32) (m_was : Nat → Int32) (m_then : Nat → Int32) (Q : Int32 → Prop) (k0 : Int32) : Prop :=
  Q k0
def wp_X9_change_b23 (m_changeMany : Int32) (m_start : Int32) (m_changeDays : Nat → Int32) (m_was : Nat → Int32) (m_then : Nat → Int32) (Q : Int32 → Prop)  : Prop :=
  Q (-1 : Int32)
def wp_X9_change (m_changeMany : Int32) (m_start : Int32) (m_changeDays : Nat → Int32) (m_was : Nat → Int32) (m_then : Nat → Int32) (p1 : Int32) (p2 : Int32) (Q : Int32 → Prop) : Prop :=
  wp_X9_in p1 (0 : Int32) (m_changeMany - (1 : Int32)) (fun r8_1 =>
    (r8_1 = 0 →
      wp_X9_change_b23 m_changeMany m_start m_changeDays m_was m_then Q  ) ∧
    (¬ r8_1 = 0 →
      wp_X9_in p2 (0 : Int32) (3 : Int32) (fun r17_2 =>
        (¬ r17_2 = 0 →
          (¬ p2 = 0 →
            (¬ p2 = (1 : Int32) →
              (¬ p2 = (2 : Int32) →
                wp_X9_held m_changeMany m_start m_was m_then (fun r67_3 =>
                  wp_X9_has r67_3 p1 (fun r71_4 =>
                    (r71_4 = 0 →
                      wp_X9_change_b82 m_changeMany m_start m_changeDays m_was m_then Q  (0 : Int32)) ∧
                    (¬ r71_4 = 0 →
                      wp_X9_change_b82 m_changeMany m_start m_changeDays m_was m_then Q  (1 : Int32))))) ∧
              (p2 = (2 : Int32) →
                vp_in p1 6 ∧
                wp_X9_change_b82 m_changeMany m_start m_changeDays m_was m_then Q  (m_then p1.toNatClampNeg))) ∧
            (p2 = (1 : Int32) →
              vp_in p1 6 ∧
              wp_X9_change_b82 m_changeMany m_start m_changeDays m_was m_then Q  (m_was p1.toNatClampNeg))) ∧
          (p2 = 0 →
            vp_in p1 6 ∧
            wp_X9_change_b82 m_changeMany m_start m_changeDays m_was m_then Q  (m_changeDays p1.toNatClampNeg))) ∧
        (r17_2 = 0 →
          wp_X9_change_b23 m_changeMany m_start m_changeDays m_was m_then Q  ))))
def wp_X5_certain (r_inEach : Nat → Int32) (Q : Int32 → Prop) : Prop :=
  Q (r_inEach (0 : Int32).toNatClampNeg)
def wp_X5_possible (r_inAny : Nat → Int32) (Q : Int32 → Prop) : Prop :=
  Q (r_inAny (0 : Int32).toNatClampNeg)
def wp_X8_now (p_heldInAll : Int32) (q_size : Int32) (r_rest : Nat → Int32) (r_inEach : Nat → Int32) (r_inAny : Nat → Int32) (r_keptInFirst : Int32) (r_swapAt : Int32) (r_swapGood : Int32) (p1 : Int32) (Q : Int32 → Prop) : Prop :=
  (p1.toInt < 0 ∨ 7 < p1.toInt →
    Q (-1 : Int32)) ∧
  (p1 = 0 →
    wp_X5_bestGood r_rest (fun r52_1 =>
      Q r52_1)) ∧
  (p1 = 1 →
    Q r_keptInFirst) ∧
  (p1 = 2 →
    wp_X5_certain r_inEach (fun r68_2 =>
      Q r68_2)) ∧
  (p1 = 3 →
    wp_X5_possible r_inAny (fun r76_3 =>
      Q r76_3)) ∧
  (p1 = 4 →
    Q r_swapAt) ∧
  (p1 = 5 →
    Q r_swapGood) ∧
  (p1 = 6 →
    Q p_heldInAll) ∧
  (p1 = 7 →
    Q q_size)
def wp_X9_keptOf (m_now : Nat → Int32) (m_setKept : Int32) (m_lastKept : Int32) (m_lastFar : Int32) (p1 : Int32) (Q : Int32 → Int32 → Int32 → Int32 → Prop) : Prop :=
  wp_X9_goodOf m_now m_setKept m_lastKept m_lastFar p1 (m_now (0 : Int32).toNatClampNeg) (fun r8_4 m_setKept_8_1 m_lastKept_8_2 m_lastFar_8_3 =>
    wp_X9_bits m_setKept_8_1 (fun r16_5 =>
      Q r16_5 m_setKept_8_1 m_lastKept_8_2 m_lastFar_8_3))
def wp_X9_swap_b96 (m_now : Nat → Int32) (m_best : Int32) (m_goods : Nat → Int32) (Q : Int32 → Int32 → Prop) (K24 : Int32 → Int32 → Int32 → Int32 → Prop) (k0 : Int32) (v1 : Int32) (v2 : Int32) (v3 : Int32) (m_swapMost : Int32) : Prop :=
  ∀ x99_1 : Int32, x99_1 = v3 + 1 →
  K24 v1 v2 x99_1 k0
def wp_X9_swap_b76 (m_now : Nat → Int32) (m_best : Int32) (m_goods : Nat → Int32) (Q : Int32 → Int32 → Prop) (K24 : Int32 → Int32 → Int32 → Int32 → Prop) (k0 : Int32) (v2 : Int32) (v3 : Int32) (v5 : Int32) (m_swapMost : Int32) : Prop :=
  (v5 ≤ m_swapMost →
    wp_X9_swap_b96 m_now m_best m_goods Q K24 m_swapMost k0 v2 v3 m_swapMost) ∧
  (¬ v5 ≤ m_swapMost →
    wp_X9_swap_b96 m_now m_best m_goods Q K24 v5 k0 v2 v3 m_swapMost)
def wp_X9_swap_h24 (m_now : Nat → Int32) (m_best : Int32) (m_goods : Nat → Int32) (Q : Int32 → Int32 → Prop) : Nat → Int32 → Int32 → Int32 → Int32 → Prop
  | 0 => fun _ _ _ _ => False
  | n + 1 => fun v1 v2 v3 m_swapMost =>
    ((m_now (0 : Int32).toNatClampNeg) ≤ v3 →
      Q v1 m_swapMost) ∧
    (¬ (m_now (0 : Int32).toNatClampNeg) ≤ v3 →
      ∀ x39_2 : Int32, x39_2 = (((1 : Int32) <<< (v3 &&& 31)) - (1 : Int32)) →
      vp_in x39_2 1024 ∧
      vp_in (v2 &&& (x39_2 ^^^ (-1 : Int32))) 1024 ∧
      ∀ x59_3 : Int32, x59_3 = ((m_goods x39_2.toNatClampNeg) + (m_goods (v2 &&& (x39_2 ^^^ (-1 : Int32))).toNatClampNeg)) →
      (x59_3 ≤ m_swapMost →
        wp_X9_swap_b76 m_now m_best m_goods Q (fun y0 y1 y2 y3 => wp_X9_swap_h24 m_now m_best m_goods Q  n y0 y1 y2 y3) v1 v2 v3 x59_3 m_swapMost) ∧
      (¬ x59_3 ≤ m_swapMost →
        wp_X9_swap_b76 m_now m_best m_goods Q (fun y0 y1 y2 y3 => wp_X9_swap_h24 m_now m_best m_goods Q  n y0 y1 y2 y3) v3 v2 v3 x59_3 m_swapMost))
def wp_X9_swap (m_now : Nat → Int32) (m_best : Int32) (m_goods : Nat → Int32) (m_swapMost : Int32) (Q : Int32 → Int32 → Prop) : Prop :=
  ∀ x21_4 : Int32, x21_4 = (((1 : Int32) <<< ((m_now (0 : Int32).toNatClampNeg) &&& 31)) - (1 : Int32)) →
  ∃ n24, wp_X9_swap_h24 m_now m_best m_goods Q  n24 (-9 : Int32) x21_4 (1 : Int32) m_best
def wp_X9_now_b99 (m_now : Nat → Int32) (m_changeMany : Int32) (m_start : Int32) (m_was : Nat → Int32) (m_then : Nat → Int32) (m_undoMany : Int32) (Q : Int32 → Int32 → Int32 → Int32 → Int64 → Int32 → Int32 → (Nat → Int32) → Int32 → Int32 → Int32 → Int32 → Prop) (k0 : Int32) (m_isKnown : Int32) (m_best : Int32) (m_firstCode : Int32) (m_rivalMany : Int64) (m_certain : Int32) (m_possible : Int32) (m_goods : Nat → Int32) (m_setKept : Int32) (m_lastKept : Int32) (m_lastFar : Int32) (m_swapMost : Int32) : Prop :=
  Q k0 m_isKnown m_best m_firstCode m_rivalMany m_certain m_possible m_goods m_setKept m_lastKept m_lastFar m_swapMost
def wp_X9_now (m_now : Nat → Int32) (m_changeMany : Int32) (m_start : Int32) (m_was : Nat → Int32) (m_then : Nat → Int32) (m_undoMany : Int32) (m_isKnown : Int32) (m_best : Int32) (m_firstCode : Int32) (m_rivalMany : Int64) (m_certain : Int32) (m_possible : Int32) (m_goods : Nat → Int32) (m_setKept : Int32) (m_lastKept : Int32) (m_lastFar : Int32) (m_swapMost : Int32) (p1 : Int32) (Q : Int32 → Int32 → Int32 → Int32 → Int64 → Int32 → Int32 → (Nat → Int32) → Int32 → Int32 → Int32 → Int32 → Prop) : Prop :=
  wp_X9_knows m_now m_isKnown m_best m_firstCode m_rivalMany m_certain m_possible m_goods m_setKept m_lastKept m_lastFar (fun m_isKnown_1_1 m_best_1_2 m_firstCode_1_3 m_rivalMany_1_4 m_certain_1_5 m_possible_1_6 m_goods_1_7 m_setKept_1_8 m_lastKept_1_9 m_lastFar_1_10 =>
    (p1.toInt < 0 ∨ 7 < p1.toInt →
      Q (-1 : Int32) m_isKnown_1_1 m_best_1_2 m_firstCode_1_3 m_rivalMany_1_4 m_certain_1_5 m_possible_1_6 m_goods_1_7 m_setKept_1_8 m_lastKept_1_9 m_lastFar_1_10 m_swapMost) ∧
    (p1 = 0 →
      Q m_best_1_2 m_isKnown_1_1 m_best_1_2 m_firstCode_1_3 m_rivalMany_1_4 m_certain_1_5 m_possible_1_6 m_goods_1_7 m_setKept_1_8 m_lastKept_1_9 m_lastFar_1_10 m_swapMost) ∧
    (p1 = 1 →
      wp_X9_keptOf m_now m_setKept_1_8 m_lastKept_1_9 m_lastFar_1_10 m_firstCode_1_3 (fun r62_14 m_setKept_62_11 m_lastKept_62_12 m_lastFar_62_13 =>
        Q r62_14 m_isKnown_1_1 m_best_1_2 m_firstCode_1_3 m_rivalMany_1_4 m_certain_1_5 m_possible_1_6 m_goods_1_7 m_setKept_62_11 m_lastKept_62_12 m_lastFar_62_13 m_swapMost)) ∧
    (p1 = 2 →
      Q m_certain_1_5 m_isKnown_1_1 m_best_1_2 m_firstCode_1_3 m_rivalMany_1_4 m_certain_1_5 m_possible_1_6 m_goods_1_7 m_setKept_1_8 m_lastKept_1_9 m_lastFar_1_10 m_swapMost) ∧
    (p1 = 3 →
      Q m_possible_1_6 m_isKnown_1_1 m_best_1_2 m_firstCode_1_3 m_rivalMany_1_4 m_certain_1_5 m_possible_1_6 m_goods_1_7 m_setKept_1_8 m_lastKept_1_9 m_lastFar_1_10 m_swapMost) ∧
    (p1 = 4 →
      wp_X9_swap m_now m_best_1_2 m_goods_1_7 m_swapMost (fun r77_16 m_swapMost_77_15 =>
        Q r77_16 m_isKnown_1_1 m_best_1_2 m_firstCode_1_3 m_rivalMany_1_4 m_certain_1_5 m_possible_1_6 m_goods_1_7 m_setKept_1_8 m_lastKept_1_9 m_lastFar_1_10 m_swapMost_77_15)) ∧
    (p1 = 5 →
      wp_X9_swap m_now m_best_1_2 m_goods_1_7 m_swapMost (fun r82_18 m_swapMost_82_17 =>
        (¬ r82_18 = (-9 : Int32) →
          wp_X9_now_b99 m_now m_changeMany m_start m_was m_then m_undoMany Q  m_swapMost_82_17 m_isKnown_1_1 m_best_1_2 m_firstCode_1_3 m_rivalMany_1_4 m_certain_1_5 m_possible_1_6 m_goods_1_7 m_setKept_1_8 m_lastKept_1_9 m_lastFar_1_10 m_swapMost_82_17) ∧
        (r82_18 = (-9 : Int32) →
          wp_X9_now_b99 m_now m_changeMany m_start m_was m_then m_undoMany Q  (-9 : Int32) m_isKnown_1_1 m_best_1_2 m_firstCode_1_3 m_rivalMany_1_4 m_certain_1_5 m_possible_1_6 m_goods_1_7 m_setKept_1_8 m_lastKept_1_9 m_lastFar_1_10 m_swapMost_82_17))) ∧
    (p1 = 6 →
      wp_X9_held m_changeMany m_start m_was m_then (fun r101_19 =>
        wp_X9_bits r101_19 (fun r104_20 =>
          Q r104_20 m_isKnown_1_1 m_best_1_2 m_firstCode_1_3 m_rivalMany_1_4 m_certain_1_5 m_possible_1_6 m_goods_1_7 m_setKept_1_8 m_lastKept_1_9 m_lastFar_1_10 m_swapMost))) ∧
    (p1 = 7 →
      Q m_undoMany m_isKnown_1_1 m_best_1_2 m_firstCode_1_3 m_rivalMany_1_4 m_certain_1_5 m_possible_1_6 m_goods_1_7 m_setKept_1_8 m_lastKept_1_9 m_lastFar_1_10 m_swapMost))
def wp_X5_bestWays (r_ways : Nat → Int64) (Q : Int64 → Prop) : Prop :=
  Q (r_ways (0 : Int32).toNatClampNeg)
def wp_X8_rivals (r_ways : Nat → Int64) (Q : Int64 → Prop) : Prop :=
  wp_X5_bestWays r_ways (fun r4_1 =>
    Q r4_1)
def wp_X9_rivals (m_now : Nat → Int32) (m_isKnown : Int32) (m_best : Int32) (m_firstCode : Int32) (m_rivalMany : Int64) (m_certain : Int32) (m_possible : Int32) (m_goods : Nat → Int32) (m_setKept : Int32) (m_lastKept : Int32) (m_lastFar : Int32) (Q : Int64 → Int32 → Int32 → Int32 → Int64 → Int32 → Int32 → (Nat → Int32) → Int32 → Int32 → Int32 → Prop) : Prop :=
  wp_X9_knows m_now m_isKnown m_best m_firstCode m_rivalMany m_certain m_possible m_goods m_setKept m_lastKept m_lastFar (fun m_isKnown_1_1 m_best_1_2 m_firstCode_1_3 m_rivalMany_1_4 m_certain_1_5 m_possible_1_6 m_goods_1_7 m_setKept_1_8 m_lastKept_1_9 m_lastFar_1_10 =>
    Q m_rivalMany_1_4 m_isKnown_1_1 m_best_1_2 m_firstCode_1_3 m_rivalMany_1_4 m_certain_1_5 m_possible_1_6 m_goods_1_7 m_setKept_1_8 m_lastKept_1_9 m_lastFar_1_10)
def wp_X8_isDay (p0 : Int32) (Q : Int32 → Prop) : Prop :=
  wp_X8_isWithin p0 (0 : Int32) (999 : Int32) (fun r5_1 =>
    (r5_1 = 0 ∨ r5_1 = 1) ∧
    Q r5_1)
def wp_X3_remember_b35 (h_rate : Int32) (h_wrap : Int32) (e_days : Nat → Int32) (e_firsts : Nat → Int32) (e_seconds : Nat → Int32) (e_size : Int32) (Q : Int32 → Int32 → (Nat → Int32) → (Nat → Int32) → (Nat → Int32) → (Nat → Nat → Int32) → (Nat → Nat → Int32) → (Nat → Nat → Int32) → Prop) (k0 : Int32) (q_size : Int32) (q_next : Int32) (qh_rate : Nat → Int32) (qh_wrap : Nat → Int32) (qe_size : Nat → Int32) (qe_days : Nat → Nat → Int32) (qe_firsts : Nat → Nat → Int32) (qe_seconds : Nat → Nat → Int32) : Prop :=
  ∀ x47_1 : Int32, x47_1 = (if (10 : Int32) < (q_size + (1 : Int32)) then (10 : Int32) else (q_size + (1 : Int32))) →
  Q x47_1 k0 qh_rate qh_wrap qe_size qe_days qe_firsts qe_seconds
def wp_X3_remember (h_rate : Int32) (h_wrap : Int32) (e_days : Nat → Int32) (e_firsts : Nat → Int32) (e_seconds : Nat → Int32) (e_size : Int32) (q_size : Int32) (q_next : Int32) (qh_rate : Nat → Int32) (qh_wrap : Nat → Int32) (qe_size : Nat → Int32) (qe_days : Nat → Nat → Int32) (qe_firsts : Nat → Nat → Int32) (qe_seconds : Nat → Nat → Int32) (Q : Int32 → Int32 → (Nat → Int32) → (Nat → Int32) → (Nat → Int32) → (Nat → Nat → Int32) → (Nat → Nat → Int32) → (Nat → Nat → Int32) → Prop) : Prop :=
  vp_in q_next 10 ∧
  wp_X1_copy h_rate h_wrap e_days e_firsts e_seconds e_size (qh_rate q_next.toNatClampNeg) (qh_wrap q_next.toNatClampNeg) (qe_days q_next.toNatClampNeg) (qe_firsts q_next.toNatClampNeg) (qe_seconds q_next.toNatClampNeg) (qe_size q_next.toNatClampNeg) (fun h_rate_10_2 h_wrap_10_3 e_days_10_4 e_firsts_10_5 e_seconds_10_6 e_size_10_7 =>
    ((10 : Int32) ≤ (q_next + (1 : Int32)) →
      wp_X3_remember_b35 h_rate h_wrap e_days e_firsts e_seconds e_size Q  (0 : Int32) q_size q_next (va_up qh_rate q_next.toNatClampNeg h_rate_10_2) (va_up qh_wrap q_next.toNatClampNeg h_wrap_10_3) (va_up qe_size q_next.toNatClampNeg e_size_10_7) (va_up qe_days q_next.toNatClampNeg e_days_10_4) (va_up qe_firsts q_next.toNatClampNeg e_firsts_10_5) (va_up qe_seconds q_next.toNatClampNeg e_seconds_10_6)) ∧
    (¬ (10 : Int32) ≤ (q_next + (1 : Int32)) →
      wp_X3_remember_b35 h_rate h_wrap e_days e_firsts e_seconds e_size Q  (q_next + (1 : Int32)) q_size q_next (va_up qh_rate q_next.toNatClampNeg h_rate_10_2) (va_up qh_wrap q_next.toNatClampNeg h_wrap_10_3) (va_up qe_size q_next.toNatClampNeg e_size_10_7) (va_up qe_days q_next.toNatClampNeg e_days_10_4) (va_up qe_firsts q_next.toNatClampNeg e_firsts_10_5) (va_up qe_seconds q_next.toNatClampNeg e_seconds_10_6)))
def wp_X8_adds_b28 (h_rate : Int32) (h_wrap : Int32) (Q : Int32 → (Nat → Int32) → (Nat → Int32) → (Nat → Int32) → Int32 → Int32 → Int32 → (Nat → Int32) → (Nat → Int32) → (Nat → Int32) → (Nat → Nat → Int32) → (Nat → Nat → Int32) → (Nat → Nat → Int32) → (Nat → Int32) → (Nat → Int32) → (Nat → Int32) → (Nat → Int32) → (Nat → Int32) → (Nat → Int64) → (Nat → Int32) → (Nat → Int32) → (Nat → Int32) → (Nat → Int32) → Int32 → Int32 → Int32 → Int32 → Prop) (e_days : Nat → Int32) (e_firsts : Nat → Int32) (e_seconds : Nat → Int32) (e_size : Int32) (q_size : Int32) (q_next : Int32) (qh_rate : Nat → Int32) (qh_wrap : Nat → Int32) (qe_size : Nat → Int32) (qe_days : Nat → Nat → Int32) (qe_firsts : Nat → Nat → Int32) (qe_seconds : Nat → Nat → Int32) (s_days : Nat → Int32) (s_fars : Nat → Int32) (s_goods : Nat → Int32) (r_until : Nat → Int32) (r_rest : Nat → Int32) (r_ways : Nat → Int64) (r_inEach : Nat → Int32) (r_inAny : Nat → Int32) (r_firsts : Nat → Int32) (r_reasons : Nat → Int32) (r_keptInFirst : Int32) (r_swapAt : Int32) (r_swapGood : Int32) (l_known : Int32) : Prop :=
  Q (-1 : Int32) e_days e_firsts e_seconds e_size q_size q_next qh_rate qh_wrap qe_size qe_days qe_firsts qe_seconds s_days s_fars s_goods r_until r_rest r_ways r_inEach r_inAny r_firsts r_reasons r_keptInFirst r_swapAt r_swapGood l_known
def wp_X8_adds (h_rate : Int32) (h_wrap : Int32) (e_days : Nat → Int32) (e_firsts : Nat → Int32) (e_seconds : Nat → Int32) (e_size : Int32) (q_size : Int32) (q_next : Int32) (qh_rate : Nat → Int32) (qh_wrap : Nat → Int32) (qe_size : Nat → Int32) (qe_days : Nat → Nat → Int32) (qe_firsts : Nat → Nat → Int32) (qe_seconds : Nat → Nat → Int32) (s_days : Nat → Int32) (s_fars : Nat → Int32) (s_goods : Nat → Int32) (r_until : Nat → Int32) (r_rest : Nat → Int32) (r_ways : Nat → Int64) (r_inEach : Nat → Int32) (r_inAny : Nat → Int32) (r_firsts : Nat → Int32) (r_reasons : Nat → Int32) (r_keptInFirst : Int32) (r_swapAt : Int32) (r_swapGood : Int32) (l_known : Int32) (p1 : Int32) (p2 : Int32) (p3 : Int32) (Q : Int32 → (Nat → Int32) → (Nat → Int32) → (Nat → Int32) → Int32 → Int32 → Int32 → (Nat → Int32) → (Nat → Int32) → (Nat → Int32) → (Nat → Nat → Int32) → (Nat → Nat → Int32) → (Nat → Nat → Int32) → (Nat → Int32) → (Nat → Int32) → (Nat → Int32) → (Nat → Int32) → (Nat → Int32) → (Nat → Int64) → (Nat → Int32) → (Nat → Int32) → (Nat → Int32) → (Nat → Int32) → Int32 → Int32 → Int32 → Int32 → Prop) : Prop :=
  wp_X8_isDay p1 (fun r1_1 =>
    (r1_1 = 0 →
      wp_X8_adds_b28 h_rate h_wrap Q  e_days e_firsts e_seconds e_size q_size q_next qh_rate qh_wrap qe_size qe_days qe_firsts qe_seconds s_days s_fars s_goods r_until r_rest r_ways r_inEach r_inAny r_firsts r_reasons r_keptInFirst r_swapAt r_swapGood l_known) ∧
    (¬ r1_1 = 0 →
      wp_X8_isWithin p2 (0 : Int32) (9999 : Int32) (fun r12_2 =>
        (r12_2 = 0 →
          wp_X8_adds_b28 h_rate h_wrap Q  e_days e_firsts e_seconds e_size q_size q_next qh_rate qh_wrap qe_size qe_days qe_firsts qe_seconds s_days s_fars s_goods r_until r_rest r_ways r_inEach r_inAny r_firsts r_reasons r_keptInFirst r_swapAt r_swapGood l_known) ∧
        (¬ r12_2 = 0 →
          wp_X8_isWithin p3 (1 : Int32) (9 : Int32) (fun r22_3 =>
            (¬ r22_3 = 0 →
              wp_X0_isFull 10 e_size (fun r37_4 =>
                (r37_4 = 0 →
                  wp_X3_remember h_rate h_wrap e_days e_firsts e_seconds e_size q_size q_next qh_rate qh_wrap qe_size qe_days qe_firsts qe_seconds (fun q_size_54_5 q_next_54_6 qh_rate_54_7 qh_wrap_54_8 qe_size_54_9 qe_days_54_10 qe_firsts_54_11 qe_seconds_54_12 =>
                    wp_X0_insert 10 e_days e_firsts e_seconds e_size p1 p2 p3 (fun r67_17 e_days_67_13 e_firsts_67_14 e_seconds_67_15 e_size_67_16 =>
                      wp_X8_repairAnew h_rate h_wrap e_days_67_13 e_firsts_67_14 e_seconds_67_15 e_size_67_16 s_days s_fars s_goods r_until r_rest r_ways r_inEach r_inAny r_firsts r_reasons r_keptInFirst r_swapAt r_swapGood l_known (fun s_days_73_18 s_fars_73_19 s_goods_73_20 r_until_73_21 r_rest_73_22 r_ways_73_23 r_inEach_73_24 r_inAny_73_25 r_firsts_73_26 r_reasons_73_27 r_keptInFirst_73_28 r_swapAt_73_29 r_swapGood_73_30 l_known_73_31 =>
                        Q r67_17 e_days_67_13 e_firsts_67_14 e_seconds_67_15 e_size_67_16 q_size_54_5 q_next_54_6 qh_rate_54_7 qh_wrap_54_8 qe_size_54_9 qe_days_54_10 qe_firsts_54_11 qe_seconds_54_12 s_days_73_18 s_fars_73_19 s_goods_73_20 r_until_73_21 r_rest_73_22 r_ways_73_23 r_inEach_73_24 r_inAny_73_25 r_firsts_73_26 r_reasons_73_27 r_keptInFirst_73_28 r_swapAt_73_29 r_swapGood_73_30 l_known_73_31)))) ∧
                (¬ r37_4 = 0 →
                  Q (-3 : Int32) e_days e_firsts e_seconds e_size q_size q_next qh_rate qh_wrap qe_size qe_days qe_firsts qe_seconds s_days s_fars s_goods r_until r_rest r_ways r_inEach r_inAny r_firsts r_reasons r_keptInFirst r_swapAt r_swapGood l_known))) ∧
            (r22_3 = 0 →
              wp_X8_adds_b28 h_rate h_wrap Q  e_days e_firsts e_seconds e_size q_size q_next qh_rate qh_wrap qe_size qe_days qe_firsts qe_seconds s_days s_fars s_goods r_until r_rest r_ways r_inEach r_inAny r_firsts r_reasons r_keptInFirst r_swapAt r_swapGood l_known))))))
def wp_X9_remember_b66 (m_now : Nat → Int32) (Q : Int32 → Int32 → (Nat → Int32) → Int32 → Prop) (k0 : Int32) (k1 : Int32) (m_undoMany : Int32) (m_undoAt : Int32) (m_undos : Nat → Int32) (m_isKnown : Int32) : Prop :=
  ∀ x67_1 : Int32, x67_1 = (k1 + k0) →
  Q x67_1 m_undoAt m_undos (0 : Int32)
def wp_X9_remember_h2 (m_now : Nat → Int32) (Q : Int32 → Int32 → (Nat → Int32) → Int32 → Prop) : Nat → Int32 → Int32 → Int32 → (Nat → Int32) → Int32 → Prop
  | 0 => fun _ _ _ _ _ => False
  | n + 1 => fun v1 m_undoMany m_undoAt m_undos m_isKnown =>
    ((33 : Int32) ≤ v1 →
      ∀ x44_2 : Int32, x44_2 = ((m_undoAt + (1 : Int32)) - (m_undoAt + (1 : Int32)) / (10 : Int32) * (10 : Int32)) →
      ((10 : Int32) ≤ m_undoMany →
        wp_X9_remember_b66 m_now Q  (0 : Int32) m_undoMany m_undoMany x44_2 m_undos m_isKnown) ∧
      (¬ (10 : Int32) ≤ m_undoMany →
        wp_X9_remember_b66 m_now Q  (1 : Int32) m_undoMany m_undoMany x44_2 m_undos m_isKnown)) ∧
    (¬ (33 : Int32) ≤ v1 →
      vp_in v1 33 ∧
      ∀ x27_3 : Int32, x27_3 = (m_now v1.toNatClampNeg) →
      vp_in (((33 : Int32) * m_undoAt) + v1) 330 ∧
      ∀ x28_4 : Int32, x28_4 = v1 + 1 →
      wp_X9_remember_h2 m_now Q  n x28_4 m_undoMany m_undoAt (upd m_undos (((33 : Int32) * m_undoAt) + v1).toNatClampNeg x27_3) m_isKnown)
def wp_X9_remember (m_now : Nat → Int32) (m_undoMany : Int32) (m_undoAt : Int32) (m_undos : Nat → Int32) (m_isKnown : Int32) (Q : Int32 → Int32 → (Nat → Int32) → Int32 → Prop) : Prop :=
  ∃ n2, wp_X9_remember_h2 m_now Q  n2 (0 : Int32) m_undoMany m_undoAt m_undos m_isKnown
def wp_X9_adds_b32 (Q : Int32 → (Nat → Int32) → Int32 → Int32 → (Nat → Int32) → Int32 → Prop) (m_now : Nat → Int32) (m_undoMany : Int32) (m_undoAt : Int32) (m_undos : Nat → Int32) (m_isKnown : Int32) : Prop :=
  Q (-1 : Int32) m_now m_undoMany m_undoAt m_undos m_isKnown
def wp_X9_adds (m_now : Nat → Int32) (m_undoMany : Int32) (m_undoAt : Int32) (m_undos : Nat → Int32) (m_isKnown : Int32) (p1 : Int32) (p2 : Int32) (p3 : Int32) (Q : Int32 → (Nat → Int32) → Int32 → Int32 → (Nat → Int32) → Int32 → Prop) : Prop :=
  wp_X9_in p1 (0 : Int32) (999 : Int32) (fun r5_1 =>
    (r5_1 = 0 →
      wp_X9_adds_b32 Q  m_now m_undoMany m_undoAt m_undos m_isKnown) ∧
    (¬ r5_1 = 0 →
      wp_X9_in p2 (0 : Int32) (9999 : Int32) (fun r16_2 =>
        (r16_2 = 0 →
          wp_X9_adds_b32 Q  m_now m_undoMany m_undoAt m_undos m_isKnown) ∧
        (¬ r16_2 = 0 →
          wp_X9_in p3 (1 : Int32) (9 : Int32) (fun r26_3 =>
            (¬ r26_3 = 0 →
              (¬ (m_now (0 : Int32).toNatClampNeg) = (10 : Int32) →
                wp_X9_remember m_now m_undoMany m_undoAt m_undos m_isKnown (fun m_undoMany_49_4 m_undoAt_49_5 m_undos_49_6 m_isKnown_49_7 =>
                  wp_X9_comes 33 m_now p1 p2 p3 (fun r59_9 f_row_59_8 =>
                    Q r59_9 f_row_59_8 m_undoMany_49_4 m_undoAt_49_5 m_undos_49_6 m_isKnown_49_7))) ∧
              ((m_now (0 : Int32).toNatClampNeg) = (10 : Int32) →
                Q (-3 : Int32) m_now m_undoMany m_undoAt m_undos m_isKnown)) ∧
            (r26_3 = 0 →
              wp_X9_adds_b32 Q  m_now m_undoMany m_undoAt m_undos m_isKnown))))))
def wp_X0_remove_h11 (N : Nat) (Q : (Nat → Int32) → (Nat → Int32) → (Nat → Int32) → Int32 → Prop) : Nat → Int32 → (Nat → Int32) → (Nat → Int32) → (Nat → Int32) → Int32 → Prop
  | 0 => fun _ _ _ _ _ => False
  | n + 1 => fun v2 e_days e_firsts e_seconds e_size =>
    (e_size ≤ (v2 + (1 : Int32)) →
      ∀ x63_1 : Int32, x63_1 = (e_size - (1 : Int32)) →
      Q e_days e_firsts e_seconds x63_1) ∧
    (¬ e_size ≤ (v2 + (1 : Int32)) →
      vp_in (v2 + (1 : Int32)) N ∧
      vp_in (v2 + (1 : Int32)) N ∧
      vp_in (v2 + (1 : Int32)) N ∧
      wp_X0_put N e_size e_days e_firsts e_seconds v2 (e_days (v2 + (1 : Int32)).toNatClampNeg) (e_firsts (v2 + (1 : Int32)).toNatClampNeg) (e_seconds (v2 + (1 : Int32)).toNatClampNeg) (fun e_days_47_2 e_firsts_47_3 e_seconds_47_4 =>
        ∀ x50_5 : Int32, x50_5 = v2 + 1 →
        wp_X0_remove_h11 N Q  n x50_5 e_days_47_2 e_firsts_47_3 e_seconds_47_4 e_size))
def wp_X0_remove (N : Nat) (e_days : Nat → Int32) (e_firsts : Nat → Int32) (e_seconds : Nat → Int32) (e_size : Int32) (p1 : Int32) (Q : (Nat → Int32) → (Nat → Int32) → (Nat → Int32) → Int32 → Prop) : Prop :=
  wp_X0_has N e_size p1 (fun r2_6 =>
    (¬ r2_6 = 0 →
      ∃ n11, wp_X0_remove_h11 N Q  n11 p1 e_days e_firsts e_seconds e_size) ∧
    (r2_6 = 0 →
      Q e_days e_firsts e_seconds e_size))
def wp_X8_strikes (h_rate : Int32) (h_wrap : Int32) (e_days : Nat → Int32) (e_firsts : Nat → Int32) (e_seconds : Nat → Int32) (e_size : Int32) (q_size : Int32) (q_next : Int32) (qh_rate : Nat → Int32) (qh_wrap : Nat → Int32) (qe_size : Nat → Int32) (qe_days : Nat → Nat → Int32) (qe_firsts : Nat → Nat → Int32) (qe_seconds : Nat → Nat → Int32) (s_days : Nat → Int32) (s_fars : Nat → Int32) (s_goods : Nat → Int32) (r_until : Nat → Int32) (r_rest : Nat → Int32) (r_ways : Nat → Int64) (r_inEach : Nat → Int32) (r_inAny : Nat → Int32) (r_firsts : Nat → Int32) (r_reasons : Nat → Int32) (r_keptInFirst : Int32) (r_swapAt : Int32) (r_swapGood : Int32) (l_known : Int32) (p1 : Int32) (Q : Int32 → (Nat → Int32) → (Nat → Int32) → (Nat → Int32) → Int32 → Int32 → Int32 → (Nat → Int32) → (Nat → Int32) → (Nat → Int32) → (Nat → Nat → Int32) → (Nat → Nat → Int32) → (Nat → Nat → Int32) → (Nat → Int32) → (Nat → Int32) → (Nat → Int32) → (Nat → Int32) → (Nat → Int32) → (Nat → Int64) → (Nat → Int32) → (Nat → Int32) → (Nat → Int32) → (Nat → Int32) → Int32 → Int32 → Int32 → Int32 → Prop) : Prop :=
  wp_X0_has 10 e_size p1 (fun r8_1 =>
    (¬ r8_1 = 0 →
      wp_X3_remember h_rate h_wrap e_days e_firsts e_seconds e_size q_size q_next qh_rate qh_wrap qe_size qe_days qe_firsts qe_seconds (fun q_size_24_2 q_next_24_3 qh_rate_24_4 qh_wrap_24_5 qe_size_24_6 qe_days_24_7 qe_firsts_24_8 qe_seconds_24_9 =>
        wp_X0_remove 10 e_days e_firsts e_seconds e_size p1 (fun e_days_35_10 e_firsts_35_11 e_seconds_35_12 e_size_35_13 =>
          wp_X8_repairAnew h_rate h_wrap e_days_35_10 e_firsts_35_11 e_seconds_35_12 e_size_35_13 s_days s_fars s_goods r_until r_rest r_ways r_inEach r_inAny r_firsts r_reasons r_keptInFirst r_swapAt r_swapGood l_known (fun s_days_39_14 s_fars_39_15 s_goods_39_16 r_until_39_17 r_rest_39_18 r_ways_39_19 r_inEach_39_20 r_inAny_39_21 r_firsts_39_22 r_reasons_39_23 r_keptInFirst_39_24 r_swapAt_39_25 r_swapGood_39_26 l_known_39_27 =>
            Q e_size_35_13 e_days_35_10 e_firsts_35_11 e_seconds_35_12 e_size_35_13 q_size_24_2 q_next_24_3 qh_rate_24_4 qh_wrap_24_5 qe_size_24_6 qe_days_24_7 qe_firsts_24_8 qe_seconds_24_9 s_days_39_14 s_fars_39_15 s_goods_39_16 r_until_39_17 r_rest_39_18 r_ways_39_19 r_inEach_39_20 r_inAny_39_21 r_firsts_39_22 r_reasons_39_23 r_keptInFirst_39_24 r_swapAt_39_25 r_swapGood_39_26 l_known_39_27)))) ∧
    (r8_1 = 0 →
      Q (-1 : Int32) e_days e_firsts e_seconds e_size q_size q_next qh_rate qh_wrap qe_size qe_days qe_firsts qe_seconds s_days s_fars s_goods r_until r_rest r_ways r_inEach r_inAny r_firsts r_reasons r_keptInFirst r_swapAt r_swapGood l_known))
def wp_X9_strikes_h26 (Q : Int32 → (Nat → Int32) → Int32 → Int32 → (Nat → Int32) → Int32 → Prop) : Nat → Int32 → (Nat → Int32) → Int32 → Int32 → (Nat → Int32) → Int32 → Prop
  | 0 => fun _ _ _ _ _ _ => False
  | n + 1 => fun v2 m_now m_undoMany m_undoAt m_undos m_isKnown =>
    ((m_now (0 : Int32).toNatClampNeg) ≤ v2 →
      Q (m_now (0 : Int32).toNatClampNeg) m_now m_undoMany m_undoAt m_undos m_isKnown) ∧
    (¬ (m_now (0 : Int32).toNatClampNeg) ≤ v2 →
      vp_in (((3 : Int32) + v2) + (1 : Int32)) 33 ∧
      ∀ x53_1 : Int32, x53_1 = (m_now (((3 : Int32) + v2) + (1 : Int32)).toNatClampNeg) →
      vp_in ((3 : Int32) + v2) 33 ∧
      vp_in (((13 : Int32) + v2) + (1 : Int32)) 33 ∧
      ∀ x72_2 : Int32, x72_2 = ((upd m_now ((3 : Int32) + v2).toNatClampNeg x53_1) (((13 : Int32) + v2) + (1 : Int32)).toNatClampNeg) →
      vp_in ((13 : Int32) + v2) 33 ∧
      vp_in (((23 : Int32) + v2) + (1 : Int32)) 33 ∧
      ∀ x92_3 : Int32, x92_3 = ((upd (upd m_now ((3 : Int32) + v2).toNatClampNeg x53_1) ((13 : Int32) + v2).toNatClampNeg x72_2) (((23 : Int32) + v2) + (1 : Int32)).toNatClampNeg) →
      vp_in ((23 : Int32) + v2) 33 ∧
      ∀ x94_4 : Int32, x94_4 = v2 + 1 →
      wp_X9_strikes_h26 Q  n x94_4 (upd (upd (upd m_now ((3 : Int32) + v2).toNatClampNeg x53_1) ((13 : Int32) + v2).toNatClampNeg x72_2) ((23 : Int32) + v2).toNatClampNeg x92_3) m_undoMany m_undoAt m_undos m_isKnown)
def wp_X9_strikes (m_now : Nat → Int32) (m_undoMany : Int32) (m_undoAt : Int32) (m_undos : Nat → Int32) (m_isKnown : Int32) (p1 : Int32) (Q : Int32 → (Nat → Int32) → Int32 → Int32 → (Nat → Int32) → Int32 → Prop) : Prop :=
  wp_X9_isReading m_now p1 (fun r2_5 =>
    (¬ r2_5 = 0 →
      wp_X9_remember m_now m_undoMany m_undoAt m_undos m_isKnown (fun m_undoMany_11_6 m_undoAt_11_7 m_undos_11_8 m_isKnown_11_9 =>
        ∀ x23_10 : Int32, x23_10 = ((m_now (0 : Int32).toNatClampNeg) - (1 : Int32)) →
        ∃ n26, wp_X9_strikes_h26 Q  n26 p1 (upd m_now (0 : Int32).toNatClampNeg x23_10) m_undoMany_11_6 m_undoAt_11_7 m_undos_11_8 m_isKnown_11_9)) ∧
    (r2_5 = 0 →
      Q (-1 : Int32) m_now m_undoMany m_undoAt m_undos m_isKnown))
def wp_X8_rules_b17 (e_days : Nat → Int32) (e_firsts : Nat → Int32) (e_seconds : Nat → Int32) (e_size : Int32) (Q : Int32 → Int32 → Int32 → Int32 → Int32 → (Nat → Int32) → (Nat → Int32) → (Nat → Int32) → (Nat → Nat → Int32) → (Nat → Nat → Int32) → (Nat → Nat → Int32) → (Nat → Int32) → (Nat → Int32) → (Nat → Int32) → (Nat → Int32) → (Nat → Int32) → (Nat → Int64) → (Nat → Int32) → (Nat → Int32) → (Nat → Int32) → (Nat → Int32) → Int32 → Int32 → Int32 → Int32 → Prop) (h_rate : Int32) (h_wrap : Int32) (q_size : Int32) (q_next : Int32) (qh_rate : Nat → Int32) (qh_wrap : Nat → Int32) (qe_size : Nat → Int32) (qe_days : Nat → Nat → Int32) (qe_firsts : Nat → Nat → Int32) (qe_seconds : Nat → Nat → Int32) (s_days : Nat → Int32) (s_fars : Nat → Int32) (s_goods : Nat → Int32) (r_until : Nat → Int32) (r_rest : Nat → Int32) (r_ways : Nat → Int64) (r_inEach : Nat → Int32) (r_inAny : Nat → Int32) (r_firsts : Nat → Int32) (r_reasons : Nat → Int32) (r_keptInFirst : Int32) (r_swapAt : Int32) (r_swapGood : Int32) (l_known : Int32) : Prop :=
  Q (-1 : Int32) h_rate h_wrap q_size q_next qh_rate qh_wrap qe_size qe_days qe_firsts qe_seconds s_days s_fars s_goods r_until r_rest r_ways r_inEach r_inAny r_firsts r_reasons r_keptInFirst r_swapAt r_swapGood l_known
def wp_X8_rules (e_days : Nat → Int32) (e_firsts : Nat → Int32) (e_seconds : Nat → Int32) (e_size : Int32) (h_rate : Int32) (h_wrap : Int32) (q_size : Int32) (q_next : Int32) (qh_rate : Nat → Int32) (qh_wrap : Nat → Int32) (qe_size : Nat → Int32) (qe_days : Nat → Nat → Int32) (qe_firsts : Nat → Nat → Int32) (qe_seconds : Nat → Nat → Int32) (s_days : Nat → Int32) (s_fars : Nat → Int32) (s_goods : Nat → Int32) (r_until : Nat → Int32) (r_rest : Nat → Int32) (r_ways : Nat → Int64) (r_inEach : Nat → Int32) (r_inAny : Nat → Int32) (r_firsts : Nat → Int32) (r_reasons : Nat → Int32) (r_keptInFirst : Int32) (r_swapAt : Int32) (r_swapGood : Int32) (l_known : Int32) (p1 : Int32) (p2 : Int32) (Q : Int32 → Int32 → Int32 → Int32 → Int32 → (Nat → Int32) → (Nat → Int32) → (Nat → Int32) → (Nat → Nat → Int32) → (Nat → Nat → Int32) → (Nat → Nat → Int32) → (Nat → Int32) → (Nat → Int32) → (Nat → Int32) → (Nat → Int32) → (Nat → Int32) → (Nat → Int64) → (Nat → Int32) → (Nat → Int32) → (Nat → Int32) → (Nat → Int32) → Int32 → Int32 → Int32 → Int32 → Prop) : Prop :=
  wp_X8_isWithin p1 (1 : Int32) (99 : Int32) (fun r4_1 =>
    (r4_1 = 0 →
      wp_X8_rules_b17 e_days e_firsts e_seconds e_size Q  h_rate h_wrap q_size q_next qh_rate qh_wrap qe_size qe_days qe_firsts qe_seconds s_days s_fars s_goods r_until r_rest r_ways r_inEach r_inAny r_firsts r_reasons r_keptInFirst r_swapAt r_swapGood l_known) ∧
    (¬ r4_1 = 0 →
      wp_X8_isWrap p2 (fun r11_2 =>
        (¬ r11_2 = 0 →
          wp_X3_remember h_rate h_wrap e_days e_firsts e_seconds e_size q_size q_next qh_rate qh_wrap qe_size qe_days qe_firsts qe_seconds (fun q_size_27_3 q_next_27_4 qh_rate_27_5 qh_wrap_27_6 qe_size_27_7 qe_days_27_8 qe_firsts_27_9 qe_seconds_27_10 =>
            wp_X8_repairAnew p1 p2 e_days e_firsts e_seconds e_size s_days s_fars s_goods r_until r_rest r_ways r_inEach r_inAny r_firsts r_reasons r_keptInFirst r_swapAt r_swapGood l_known (fun s_days_47_11 s_fars_47_12 s_goods_47_13 r_until_47_14 r_rest_47_15 r_ways_47_16 r_inEach_47_17 r_inAny_47_18 r_firsts_47_19 r_reasons_47_20 r_keptInFirst_47_21 r_swapAt_47_22 r_swapGood_47_23 l_known_47_24 =>
              wp_X5_bestGood r_rest_47_15 (fun r54_25 =>
                Q r54_25 p1 p2 q_size_27_3 q_next_27_4 qh_rate_27_5 qh_wrap_27_6 qe_size_27_7 qe_days_27_8 qe_firsts_27_9 qe_seconds_27_10 s_days_47_11 s_fars_47_12 s_goods_47_13 r_until_47_14 r_rest_47_15 r_ways_47_16 r_inEach_47_17 r_inAny_47_18 r_firsts_47_19 r_reasons_47_20 r_keptInFirst_47_21 r_swapAt_47_22 r_swapGood_47_23 l_known_47_24)))) ∧
        (r11_2 = 0 →
          wp_X8_rules_b17 e_days e_firsts e_seconds e_size Q  h_rate h_wrap q_size q_next qh_rate qh_wrap qe_size qe_days qe_firsts qe_seconds s_days s_fars s_goods r_until r_rest r_ways r_inEach r_inAny r_firsts r_reasons r_keptInFirst r_swapAt r_swapGood l_known))))
def wp_X9_rules_b17 (Q : Int32 → (Nat → Int32) → Int32 → Int32 → (Nat → Int32) → Int32 → Int32 → Int32 → Int64 → Int32 → Int32 → (Nat → Int32) → Int32 → Int32 → Int32 → Prop) (m_now : Nat → Int32) (m_undoMany : Int32) (m_undoAt : Int32) (m_undos : Nat → Int32) (m_isKnown : Int32) (m_best : Int32) (m_firstCode : Int32) (m_rivalMany : Int64) (m_certain : Int32) (m_possible : Int32) (m_goods : Nat → Int32) (m_setKept : Int32) (m_lastKept : Int32) (m_lastFar : Int32) : Prop :=
  Q (-1 : Int32) m_now m_undoMany m_undoAt m_undos m_isKnown m_best m_firstCode m_rivalMany m_certain m_possible m_goods m_setKept m_lastKept m_lastFar
def wp_X9_rules (m_now : Nat → Int32) (m_undoMany : Int32) (m_undoAt : Int32) (m_undos : Nat → Int32) (m_isKnown : Int32) (m_best : Int32) (m_firstCode : Int32) (m_rivalMany : Int64) (m_certain : Int32) (m_possible : Int32) (m_goods : Nat → Int32) (m_setKept : Int32) (m_lastKept : Int32) (m_lastFar : Int32) (p1 : Int32) (p2 : Int32) (Q : Int32 → (Nat → Int32) → Int32 → Int32 → (Nat → Int32) → Int32 → Int32 → Int32 → Int64 → Int32 → Int32 → (Nat → Int32) → Int32 → Int32 → Int32 → Prop) : Prop :=
  wp_X9_in p1 (1 : Int32) (99 : Int32) (fun r4_1 =>
    (r4_1 = 0 →
      wp_X9_rules_b17 Q  m_now m_undoMany m_undoAt m_undos m_isKnown m_best m_firstCode m_rivalMany m_certain m_possible m_goods m_setKept m_lastKept m_lastFar) ∧
    (¬ r4_1 = 0 →
      wp_X9_isWrap p2 (fun r11_2 =>
        (¬ r11_2 = 0 →
          wp_X9_remember m_now m_undoMany m_undoAt m_undos m_isKnown (fun m_undoMany_20_3 m_undoAt_20_4 m_undos_20_5 m_isKnown_20_6 =>
            wp_X9_knows (upd (upd m_now (1 : Int32).toNatClampNeg p1) (2 : Int32).toNatClampNeg p2) m_isKnown_20_6 m_best m_firstCode m_rivalMany m_certain m_possible m_goods m_setKept m_lastKept m_lastFar (fun m_isKnown_38_7 m_best_38_8 m_firstCode_38_9 m_rivalMany_38_10 m_certain_38_11 m_possible_38_12 m_goods_38_13 m_setKept_38_14 m_lastKept_38_15 m_lastFar_38_16 =>
              Q m_best_38_8 (upd (upd m_now (1 : Int32).toNatClampNeg p1) (2 : Int32).toNatClampNeg p2) m_undoMany_20_3 m_undoAt_20_4 m_undos_20_5 m_isKnown_38_7 m_best_38_8 m_firstCode_38_9 m_rivalMany_38_10 m_certain_38_11 m_possible_38_12 m_goods_38_13 m_setKept_38_14 m_lastKept_38_15 m_lastFar_38_16))) ∧
        (r11_2 = 0 →
          wp_X9_rules_b17 Q  m_now m_undoMany m_undoAt m_undos m_isKnown m_best m_firstCode m_rivalMany m_certain m_possible m_goods m_setKept m_lastKept m_lastFar))))
def wp_X3_recall_b27 (qh_rate : Nat → Int32) (qh_wrap : Nat → Int32) (qe_size : Nat → Int32) (qe_days : Nat → Nat → Int32) (qe_firsts : Nat → Nat → Int32) (qe_seconds : Nat → Nat → Int32) (Q : Int32 → Int32 → Int32 → Int32 → (Nat → Int32) → (Nat → Int32) → (Nat → Int32) → Int32 → Prop) (k0 : Int32) (q_size : Int32) (q_next : Int32) (h_rate : Int32) (h_wrap : Int32) (e_days : Nat → Int32) (e_firsts : Nat → Int32) (e_seconds : Nat → Int32) (e_size : Int32) : Prop :=
  ∀ x37_1 : Int32, x37_1 = (q_size - (1 : Int32)) →
  vp_in k0 10 ∧
  wp_X1_copy (qh_rate k0.toNatClampNeg) (qh_wrap k0.toNatClampNeg) (qe_days k0.toNatClampNeg) (qe_firsts k0.toNatClampNeg) (qe_seconds k0.toNatClampNeg) (qe_size k0.toNatClampNeg) h_rate h_wrap e_days e_firsts e_seconds e_size (fun h_rate_50_2 h_wrap_50_3 e_days_50_4 e_firsts_50_5 e_seconds_50_6 e_size_50_7 =>
    Q x37_1 k0 h_rate_50_2 h_wrap_50_3 e_days_50_4 e_firsts_50_5 e_seconds_50_6 e_size_50_7)
def wp_X3_recall (qh_rate : Nat → Int32) (qh_wrap : Nat → Int32) (qe_size : Nat → Int32) (qe_days : Nat → Nat → Int32) (qe_firsts : Nat → Nat → Int32) (qe_seconds : Nat → Nat → Int32) (q_size : Int32) (q_next : Int32) (h_rate : Int32) (h_wrap : Int32) (e_days : Nat → Int32) (e_firsts : Nat → Int32) (e_seconds : Nat → Int32) (e_size : Int32) (Q : Int32 → Int32 → Int32 → Int32 → (Nat → Int32) → (Nat → Int32) → (Nat → Int32) → Int32 → Prop) : Prop :=
  (¬ q_size = 0 →
    (q_next ≤ 0 →
      wp_X3_recall_b27 qh_rate qh_wrap qe_size qe_days qe_firsts qe_seconds Q  (9 : Int32) q_size q_next h_rate h_wrap e_days e_firsts e_seconds e_size) ∧
    (¬ q_next ≤ 0 →
      wp_X3_recall_b27 qh_rate qh_wrap qe_size qe_days qe_firsts qe_seconds Q  (q_next - (1 : Int32)) q_size q_next h_rate h_wrap e_days e_firsts e_seconds e_size)) ∧
  (q_size = 0 →
    Q q_size q_next h_rate h_wrap e_days e_firsts e_seconds e_size)
def wp_X8_undo (qh_rate : Nat → Int32) (qh_wrap : Nat → Int32) (qe_size : Nat → Int32) (qe_days : Nat → Nat → Int32) (qe_firsts : Nat → Nat → Int32) (qe_seconds : Nat → Nat → Int32) (h_rate : Int32) (h_wrap : Int32) (e_days : Nat → Int32) (e_firsts : Nat → Int32) (e_seconds : Nat → Int32) (e_size : Int32) (q_size : Int32) (q_next : Int32) (s_days : Nat → Int32) (s_fars : Nat → Int32) (s_goods : Nat → Int32) (r_until : Nat → Int32) (r_rest : Nat → Int32) (r_ways : Nat → Int64) (r_inEach : Nat → Int32) (r_inAny : Nat → Int32) (r_firsts : Nat → Int32) (r_reasons : Nat → Int32) (r_keptInFirst : Int32) (r_swapAt : Int32) (r_swapGood : Int32) (l_known : Int32) (Q : Int32 → Int32 → Int32 → (Nat → Int32) → (Nat → Int32) → (Nat → Int32) → Int32 → Int32 → Int32 → (Nat → Int32) → (Nat → Int32) → (Nat → Int32) → (Nat → Int32) → (Nat → Int32) → (Nat → Int64) → (Nat → Int32) → (Nat → Int32) → (Nat → Int32) → (Nat → Int32) → Int32 → Int32 → Int32 → Int32 → Prop) : Prop :=
  (¬ q_size = 0 →
    wp_X3_recall qh_rate qh_wrap qe_size qe_days qe_firsts qe_seconds q_size q_next h_rate h_wrap e_days e_firsts e_seconds e_size (fun q_size_21_1 q_next_21_2 h_rate_21_3 h_wrap_21_4 e_days_21_5 e_firsts_21_6 e_seconds_21_7 e_size_21_8 =>
      wp_X8_repairAnew h_rate_21_3 h_wrap_21_4 e_days_21_5 e_firsts_21_6 e_seconds_21_7 e_size_21_8 s_days s_fars s_goods r_until r_rest r_ways r_inEach r_inAny r_firsts r_reasons r_keptInFirst r_swapAt r_swapGood l_known (fun s_days_25_9 s_fars_25_10 s_goods_25_11 r_until_25_12 r_rest_25_13 r_ways_25_14 r_inEach_25_15 r_inAny_25_16 r_firsts_25_17 r_reasons_25_18 r_keptInFirst_25_19 r_swapAt_25_20 r_swapGood_25_21 l_known_25_22 =>
        Q q_size_21_1 h_rate_21_3 h_wrap_21_4 e_days_21_5 e_firsts_21_6 e_seconds_21_7 e_size_21_8 q_size_21_1 q_next_21_2 s_days_25_9 s_fars_25_10 s_goods_25_11 r_until_25_12 r_rest_25_13 r_ways_25_14 r_inEach_25_15 r_inAny_25_16 r_firsts_25_17 r_reasons_25_18 r_keptInFirst_25_19 r_swapAt_25_20 r_swapGood_25_21 l_known_25_22))) ∧
  (q_size = 0 →
    Q (-2 : Int32) h_rate h_wrap e_days e_firsts e_seconds e_size q_size q_next s_days s_fars s_goods r_until r_rest r_ways r_inEach r_inAny r_firsts r_reasons r_keptInFirst r_swapAt r_swapGood l_known)
def wp_X9_undo_h38 (m_undos : Nat → Int32) (Q : Int32 → (Nat → Int32) → Int32 → Int32 → Int32 → Prop) : Nat → Int32 → (Nat → Int32) → Int32 → Int32 → Int32 → Prop
  | 0 => fun _ _ _ _ _ => False
  | n + 1 => fun v1 m_now m_undoMany m_undoAt m_isKnown =>
    ((33 : Int32) ≤ v1 →
      Q m_undoMany m_now m_undoMany m_undoAt (0 : Int32)) ∧
    (¬ (33 : Int32) ≤ v1 →
      vp_in (((33 : Int32) * m_undoAt) + v1) 330 ∧
      ∀ x63_1 : Int32, x63_1 = (m_undos (((33 : Int32) * m_undoAt) + v1).toNatClampNeg) →
      vp_in v1 33 ∧
      ∀ x64_2 : Int32, x64_2 = v1 + 1 →
      wp_X9_undo_h38 m_undos Q  n x64_2 (upd m_now v1.toNatClampNeg x63_1) m_undoMany m_undoAt m_isKnown)
def wp_X9_undo (m_undos : Nat → Int32) (m_now : Nat → Int32) (m_undoMany : Int32) (m_undoAt : Int32) (m_isKnown : Int32) (Q : Int32 → (Nat → Int32) → Int32 → Int32 → Int32 → Prop) : Prop :=
  (¬ m_undoMany = 0 →
    ∀ x22_3 : Int32, x22_3 = (((m_undoAt + (10 : Int32)) - (1 : Int32)) - ((m_undoAt + (10 : Int32)) - (1 : Int32)) / (10 : Int32) * (10 : Int32)) →
    ∀ x33_4 : Int32, x33_4 = (m_undoMany - (1 : Int32)) →
    ∃ n38, wp_X9_undo_h38 m_undos Q  n38 (0 : Int32) m_now x33_4 x22_3 m_isKnown) ∧
  (m_undoMany = 0 →
    Q (-2 : Int32) m_now m_undoMany m_undoAt m_isKnown)
def wp_X5_lastUntil_b49 (e_size : Int32) (s_days : Nat → Int32) (r_firsts : Nat → Int32) (Q : Int32 → Prop) (K4 : Int32 → Int32 → Int32 → Prop) (v1 : Int32) (v2 : Int32) (v3 : Int32) : Prop :=
  ∀ x49_1 : Int32, x49_1 = v3 + 1 →
  K4 v1 v2 x49_1
def wp_X5_lastUntil_h4 (e_size : Int32) (s_days : Nat → Int32) (r_firsts : Nat → Int32) (Q : Int32 → Prop) : Nat → Int32 → Int32 → Int32 → Prop
  | 0 => fun _ _ _ => False
  | n + 1 => fun v1 v2 v3 =>
    wp_X6_size e_size (fun r9_2 =>
      (r9_2 ≤ v3 →
        Q v2) ∧
      (¬ r9_2 ≤ v3 →
        vp_in v3 10 ∧
        ((r_firsts v3.toNatClampNeg) = 0 →
          wp_X5_lastUntil_b49 e_size s_days r_firsts Q (fun y0 y1 y2 => wp_X5_lastUntil_h4 e_size s_days r_firsts Q  n y0 y1 y2) v1 v2 v3) ∧
        (¬ (r_firsts v3.toNatClampNeg) = 0 →
          vp_in v3 10 ∧
          vp_in (r_firsts v3.toNatClampNeg) 88 ∧
          (v1 < (s_days (r_firsts v3.toNatClampNeg).toNatClampNeg) →
            wp_X5_lastUntil_b49 e_size s_days r_firsts Q (fun y0 y1 y2 => wp_X5_lastUntil_h4 e_size s_days r_firsts Q  n y0 y1 y2) v1 v2 v3) ∧
          (¬ v1 < (s_days (r_firsts v3.toNatClampNeg).toNatClampNeg) →
            vp_in v3 10 ∧
            ∀ x48_3 : Int32, x48_3 = (r_firsts v3.toNatClampNeg) →
            wp_X5_lastUntil_b49 e_size s_days r_firsts Q (fun y0 y1 y2 => wp_X5_lastUntil_h4 e_size s_days r_firsts Q  n y0 y1 y2) v1 x48_3 v3))))
def wp_X5_lastUntil (e_size : Int32) (s_days : Nat → Int32) (r_firsts : Nat → Int32) (p1 : Int32) (Q : Int32 → Prop) : Prop :=
  ∃ n4, wp_X5_lastUntil_h4 e_size s_days r_firsts Q  n4 p1 (0 : Int32) (0 : Int32)
def wp_X5_firstAfter_b47 (e_size : Int32) (s_days : Nat → Int32) (r_firsts : Nat → Int32) (Q : Int32 → Prop) (K2 : Int32 → Int32 → Prop) (v1 : Int32) (v2 : Int32) : Prop :=
  ∀ x47_1 : Int32, x47_1 = v2 + 1 →
  K2 v1 x47_1
def wp_X5_firstAfter_h2 (e_size : Int32) (s_days : Nat → Int32) (r_firsts : Nat → Int32) (Q : Int32 → Prop) : Nat → Int32 → Int32 → Prop
  | 0 => fun _ _ => False
  | n + 1 => fun v1 v2 =>
    wp_X6_size e_size (fun r7_2 =>
      (r7_2 ≤ v2 →
        Q (0 : Int32)) ∧
      (¬ r7_2 ≤ v2 →
        vp_in v2 10 ∧
        ((r_firsts v2.toNatClampNeg) = 0 →
          wp_X5_firstAfter_b47 e_size s_days r_firsts Q (fun y0 y1 => wp_X5_firstAfter_h2 e_size s_days r_firsts Q  n y0 y1) v1 v2) ∧
        (¬ (r_firsts v2.toNatClampNeg) = 0 →
          vp_in v2 10 ∧
          vp_in (r_firsts v2.toNatClampNeg) 88 ∧
          ((s_days (r_firsts v2.toNatClampNeg).toNatClampNeg) ≤ v1 →
            wp_X5_firstAfter_b47 e_size s_days r_firsts Q (fun y0 y1 => wp_X5_firstAfter_h2 e_size s_days r_firsts Q  n y0 y1) v1 v2) ∧
          (¬ (s_days (r_firsts v2.toNatClampNeg).toNatClampNeg) ≤ v1 →
            vp_in v2 10 ∧
            Q (r_firsts v2.toNatClampNeg)))))
def wp_X5_firstAfter (e_size : Int32) (s_days : Nat → Int32) (r_firsts : Nat → Int32) (p1 : Int32) (Q : Int32 → Prop) : Prop :=
  ∃ n2, wp_X5_firstAfter_h2 e_size s_days r_firsts Q  n2 p1 (0 : Int32)
def wp_X5_farOn_b121 (h_rate : Int32) (e_size : Int32) (s_days : Nat → Int32) (s_fars : Nat → Int32) (r_firsts : Nat → Int32) (Q : Int32 → Prop) (k0 : Int32) : Prop :=
  Q k0
def wp_X5_farOn_b22 (h_rate : Int32) (e_size : Int32) (s_days : Nat → Int32) (s_fars : Nat → Int32) (r_firsts : Nat → Int32) (Q : Int32 → Prop)  : Prop :=
  Q (-9 : Int32)
def wp_X5_farOn (h_rate : Int32) (e_size : Int32) (s_days : Nat → Int32) (s_fars : Nat → Int32) (r_firsts : Nat → Int32) (p1 : Int32) (p2 : Int32) (Q : Int32 → Prop) : Prop :=
  wp_X5_lastUntil e_size s_days r_firsts p1 (fun r2_1 =>
    wp_X5_firstAfter e_size s_days r_firsts p1 (fun r8_2 =>
      (r2_1 = 0 →
        wp_X5_farOn_b22 h_rate e_size s_days s_fars r_firsts Q  ) ∧
      (¬ r2_1 = 0 →
        (¬ r8_2 = 0 →
          vp_in r2_1 88 ∧
          wp_X6_mostGone h_rate (s_days r2_1.toNatClampNeg) p1 (fun r39_3 =>
            vp_in r8_2 88 ∧
            wp_X6_mostGone h_rate p1 (s_days r8_2.toNatClampNeg) (fun r59_4 =>
              (p2 = 0 →
                vp_in r2_1 88 ∧
                vp_in r8_2 88 ∧
                ∀ x118_5 : Int32, x118_5 = (if (s_fars r2_1.toNatClampNeg) < ((s_fars r8_2.toNatClampNeg) - r59_4) then ((s_fars r8_2.toNatClampNeg) - r59_4) else (s_fars r2_1.toNatClampNeg)) →
                wp_X5_farOn_b121 h_rate e_size s_days s_fars r_firsts Q  x118_5) ∧
              (¬ p2 = 0 →
                vp_in r8_2 88 ∧
                vp_in r2_1 88 ∧
                ∀ x90_6 : Int32, x90_6 = (if ((s_fars r2_1.toNatClampNeg) + r39_3) < (s_fars r8_2.toNatClampNeg) then ((s_fars r2_1.toNatClampNeg) + r39_3) else (s_fars r8_2.toNatClampNeg)) →
                wp_X5_farOn_b121 h_rate e_size s_days s_fars r_firsts Q  x90_6)))) ∧
        (r8_2 = 0 →
          wp_X5_farOn_b22 h_rate e_size s_days s_fars r_firsts Q  ))))
def wp_X8_on_b33 (h_rate : Int32) (e_size : Int32) (s_days : Nat → Int32) (s_fars : Nat → Int32) (r_firsts : Nat → Int32) (Q : Int32 → Prop) (k0 : Int32) (k1 : Int32) : Prop :=
  wp_X5_farOn h_rate e_size s_days s_fars r_firsts k1 k0 (fun r33_1 =>
    Q r33_1)
def wp_X8_on_b16 (h_rate : Int32) (e_size : Int32) (s_days : Nat → Int32) (s_fars : Nat → Int32) (r_firsts : Nat → Int32) (Q : Int32 → Prop)  : Prop :=
  Q (-1 : Int32)
def wp_X8_on (h_rate : Int32) (e_size : Int32) (s_days : Nat → Int32) (s_fars : Nat → Int32) (r_firsts : Nat → Int32) (p1 : Int32) (p2 : Int32) (Q : Int32 → Prop) : Prop :=
  wp_X8_isDay p1 (fun r1_2 =>
    (r1_2 = 0 →
      wp_X8_on_b16 h_rate e_size s_days s_fars r_firsts Q  ) ∧
    (¬ r1_2 = 0 →
      wp_X8_isWithin p2 (0 : Int32) (1 : Int32) (fun r10_3 =>
        (¬ r10_3 = 0 →
          (¬ p2 = (1 : Int32) →
            wp_X8_on_b33 h_rate e_size s_days s_fars r_firsts Q  (0 : Int32) p1) ∧
          (p2 = (1 : Int32) →
            wp_X8_on_b33 h_rate e_size s_days s_fars r_firsts Q  (1 : Int32) p1)) ∧
        (r10_3 = 0 →
          wp_X8_on_b16 h_rate e_size s_days s_fars r_firsts Q  ))))
def wp_X9_on_b244 (m_now : Nat → Int32) (Q : Int32 → Int32 → Int32 → Int32 → Int64 → Int32 → Int32 → (Nat → Int32) → Int32 → Int32 → Int32 → Prop) (k0 : Int32) (m_isKnown : Int32) (m_best : Int32) (m_firstCode : Int32) (m_rivalMany : Int64) (m_certain : Int32) (m_possible : Int32) (m_goods : Nat → Int32) (m_setKept : Int32) (m_lastKept : Int32) (m_lastFar : Int32) : Prop :=
  Q k0 m_isKnown m_best m_firstCode m_rivalMany m_certain m_possible m_goods m_setKept m_lastKept m_lastFar
def wp_X9_on_b146 (m_now : Nat → Int32) (Q : Int32 → Int32 → Int32 → Int32 → Int64 → Int32 → Int32 → (Nat → Int32) → Int32 → Int32 → Int32 → Prop) (m_isKnown : Int32) (m_best : Int32) (m_firstCode : Int32) (m_rivalMany : Int64) (m_certain : Int32) (m_possible : Int32) (m_goods : Nat → Int32) (m_setKept : Int32) (m_lastKept : Int32) (m_lastFar : Int32) : Prop :=
  Q (-9 : Int32) m_isKnown m_best m_firstCode m_rivalMany m_certain m_possible m_goods m_setKept m_lastKept m_lastFar
def wp_X9_on_b125 (m_now : Nat → Int32) (Q : Int32 → Int32 → Int32 → Int32 → Int64 → Int32 → Int32 → (Nat → Int32) → Int32 → Int32 → Int32 → Prop) (K36 : Int32 → Int32 → Int32 → Int32 → Int32 → Int32 → Int32 → Int32 → Int64 → Int32 → Int32 → (Nat → Int32) → Int32 → Int32 → Int32 → Prop) (k0 : Int32) (v1 : Int32) (v2 : Int32) (v3 : Int32) (v5 : Int32) (m_isKnown : Int32) (m_best : Int32) (m_firstCode : Int32) (m_rivalMany : Int64) (m_certain : Int32) (m_possible : Int32) (m_goods : Nat → Int32) (m_setKept : Int32) (m_lastKept : Int32) (m_lastFar : Int32) : Prop :=
  ∀ x127_1 : Int32, x127_1 = v5 + 1 →
  K36 v1 v2 v3 k0 x127_1 m_isKnown m_best m_firstCode m_rivalMany m_certain m_possible m_goods m_setKept m_lastKept m_lastFar
def wp_X9_on_b123 (m_now : Nat → Int32) (Q : Int32 → Int32 → Int32 → Int32 → Int64 → Int32 → Int32 → (Nat → Int32) → Int32 → Int32 → Int32 → Prop) (K36 : Int32 → Int32 → Int32 → Int32 → Int32 → Int32 → Int32 → Int32 → Int64 → Int32 → Int32 → (Nat → Int32) → Int32 → Int32 → Int32 → Prop) (v1 : Int32) (v2 : Int32) (v3 : Int32) (v4 : Int32) (v5 : Int32) (m_isKnown : Int32) (m_best : Int32) (m_firstCode : Int32) (m_rivalMany : Int64) (m_certain : Int32) (m_possible : Int32) (m_goods : Nat → Int32) (m_setKept : Int32) (m_lastKept : Int32) (m_lastFar : Int32) : Prop :=
  wp_X9_on_b125 m_now Q K36 v4 v1 v2 v3 v5 m_isKnown m_best m_firstCode m_rivalMany m_certain m_possible m_goods m_setKept m_lastKept m_lastFar
def wp_X9_on_b92 (m_now : Nat → Int32) (Q : Int32 → Int32 → Int32 → Int32 → Int64 → Int32 → Int32 → (Nat → Int32) → Int32 → Int32 → Int32 → Prop) (K36 : Int32 → Int32 → Int32 → Int32 → Int32 → Int32 → Int32 → Int32 → Int64 → Int32 → Int32 → (Nat → Int32) → Int32 → Int32 → Int32 → Prop) (k0 : Int32) (v1 : Int32) (v2 : Int32) (v4 : Int32) (v5 : Int32) (v6 : Int32) (m_isKnown : Int32) (m_best : Int32) (m_firstCode : Int32) (m_rivalMany : Int64) (m_certain : Int32) (m_possible : Int32) (m_goods : Nat → Int32) (m_setKept : Int32) (m_lastKept : Int32) (m_lastFar : Int32) : Prop :=
  (v6 = 0 →
    wp_X9_on_b123 m_now Q K36 v1 v2 k0 v4 v5 m_isKnown m_best m_firstCode m_rivalMany m_certain m_possible m_goods m_setKept m_lastKept m_lastFar) ∧
  (¬ v6 = 0 →
    vp_in ((3 : Int32) + v5) 33 ∧
    ((m_now ((3 : Int32) + v5).toNatClampNeg) ≤ v1 →
      wp_X9_on_b123 m_now Q K36 v1 v2 k0 v4 v5 m_isKnown m_best m_firstCode m_rivalMany m_certain m_possible m_goods m_setKept m_lastKept m_lastFar) ∧
    (¬ (m_now ((3 : Int32) + v5).toNatClampNeg) ≤ v1 →
      (¬ v4 = (-9 : Int32) →
        wp_X9_on_b123 m_now Q K36 v1 v2 k0 v4 v5 m_isKnown m_best m_firstCode m_rivalMany m_certain m_possible m_goods m_setKept m_lastKept m_lastFar) ∧
      (v4 = (-9 : Int32) →
        wp_X9_on_b125 m_now Q K36 v5 v1 v2 k0 v5 m_isKnown m_best m_firstCode m_rivalMany m_certain m_possible m_goods m_setKept m_lastKept m_lastFar)))
def wp_X9_on_b91 (m_now : Nat → Int32) (Q : Int32 → Int32 → Int32 → Int32 → Int64 → Int32 → Int32 → (Nat → Int32) → Int32 → Int32 → Int32 → Prop) (K36 : Int32 → Int32 → Int32 → Int32 → Int32 → Int32 → Int32 → Int32 → Int64 → Int32 → Int32 → (Nat → Int32) → Int32 → Int32 → Int32 → Prop) (v1 : Int32) (v2 : Int32) (v3 : Int32) (v4 : Int32) (v5 : Int32) (v6 : Int32) (m_isKnown : Int32) (m_best : Int32) (m_firstCode : Int32) (m_rivalMany : Int64) (m_certain : Int32) (m_possible : Int32) (m_goods : Nat → Int32) (m_setKept : Int32) (m_lastKept : Int32) (m_lastFar : Int32) : Prop :=
  wp_X9_on_b92 m_now Q K36 v3 v1 v2 v4 v5 v6 m_isKnown m_best m_firstCode m_rivalMany m_certain m_possible m_goods m_setKept m_lastKept m_lastFar
def wp_X9_on_b66 (m_now : Nat → Int32) (Q : Int32 → Int32 → Int32 → Int32 → Int64 → Int32 → Int32 → (Nat → Int32) → Int32 → Int32 → Int32 → Prop) (K36 : Int32 → Int32 → Int32 → Int32 → Int32 → Int32 → Int32 → Int32 → Int64 → Int32 → Int32 → (Nat → Int32) → Int32 → Int32 → Int32 → Prop) (k0 : Int32) (v1 : Int32) (v2 : Int32) (v3 : Int32) (v4 : Int32) (v5 : Int32) (m_isKnown : Int32) (m_best : Int32) (m_firstCode : Int32) (m_rivalMany : Int64) (m_certain : Int32) (m_possible : Int32) (m_goods : Nat → Int32) (m_setKept : Int32) (m_lastKept : Int32) (m_lastFar : Int32) : Prop :=
  (k0 = 0 →
    wp_X9_on_b91 m_now Q K36 v1 v2 v3 v4 v5 k0 m_isKnown m_best m_firstCode m_rivalMany m_certain m_possible m_goods m_setKept m_lastKept m_lastFar) ∧
  (¬ k0 = 0 →
    vp_in ((3 : Int32) + v5) 33 ∧
    (v1 < (m_now ((3 : Int32) + v5).toNatClampNeg) →
      wp_X9_on_b91 m_now Q K36 v1 v2 v3 v4 v5 k0 m_isKnown m_best m_firstCode m_rivalMany m_certain m_possible m_goods m_setKept m_lastKept m_lastFar) ∧
    (¬ v1 < (m_now ((3 : Int32) + v5).toNatClampNeg) →
      wp_X9_on_b92 m_now Q K36 v5 v1 v2 v4 v5 k0 m_isKnown m_best m_firstCode m_rivalMany m_certain m_possible m_goods m_setKept m_lastKept m_lastFar))
def wp_X9_on_h36 (m_now : Nat → Int32) (Q : Int32 → Int32 → Int32 → Int32 → Int64 → Int32 → Int32 → (Nat → Int32) → Int32 → Int32 → Int32 → Prop) : Nat → Int32 → Int32 → Int32 → Int32 → Int32 → Int32 → Int32 → Int32 → Int64 → Int32 → Int32 → (Nat → Int32) → Int32 → Int32 → Int32 → Prop
  | 0 => fun _ _ _ _ _ _ _ _ _ _ _ _ _ _ _ => False
  | n + 1 => fun v1 v2 v3 v4 v5 m_isKnown m_best m_firstCode m_rivalMany m_certain m_possible m_goods m_setKept m_lastKept m_lastFar =>
    ((m_now (0 : Int32).toNatClampNeg) ≤ v5 →
      (v3 = (-9 : Int32) →
        wp_X9_on_b146 m_now Q  m_isKnown m_best m_firstCode m_rivalMany m_certain m_possible m_goods m_setKept m_lastKept m_lastFar) ∧
      (¬ v3 = (-9 : Int32) →
        (¬ v4 = (-9 : Int32) →
          wp_X9_farOf m_now m_firstCode m_setKept m_lastKept m_lastFar v3 (fun r151_5 m_setKept_151_2 m_lastKept_151_3 m_lastFar_151_4 =>
            wp_X9_farOf m_now m_firstCode m_setKept_151_2 m_lastKept_151_3 m_lastFar_151_4 v4 (fun r159_9 m_setKept_159_6 m_lastKept_159_7 m_lastFar_159_8 =>
              vp_in ((3 : Int32) + v4) 33 ∧
              ∀ x184_10 : Int32, x184_10 = (r159_9 - ((m_now (1 : Int32).toNatClampNeg) * ((m_now ((3 : Int32) + v4).toNatClampNeg) - v1))) →
              vp_in ((3 : Int32) + v3) 33 ∧
              ∀ x206_11 : Int32, x206_11 = (r151_5 + ((m_now (1 : Int32).toNatClampNeg) * (v1 - (m_now ((3 : Int32) + v3).toNatClampNeg)))) →
              (¬ v2 = 0 →
                (r159_9 ≤ x206_11 →
                  wp_X9_on_b244 m_now Q  r159_9 m_isKnown m_best m_firstCode m_rivalMany m_certain m_possible m_goods m_setKept_159_6 m_lastKept_159_7 m_lastFar_159_8) ∧
                (¬ r159_9 ≤ x206_11 →
                  wp_X9_on_b244 m_now Q  x206_11 m_isKnown m_best m_firstCode m_rivalMany m_certain m_possible m_goods m_setKept_159_6 m_lastKept_159_7 m_lastFar_159_8)) ∧
              (v2 = 0 →
                (x184_10 ≤ r151_5 →
                  wp_X9_on_b244 m_now Q  r151_5 m_isKnown m_best m_firstCode m_rivalMany m_certain m_possible m_goods m_setKept_159_6 m_lastKept_159_7 m_lastFar_159_8) ∧
                (¬ x184_10 ≤ r151_5 →
                  wp_X9_on_b244 m_now Q  x184_10 m_isKnown m_best m_firstCode m_rivalMany m_certain m_possible m_goods m_setKept_159_6 m_lastKept_159_7 m_lastFar_159_8))))) ∧
        (v4 = (-9 : Int32) →
          wp_X9_on_b146 m_now Q  m_isKnown m_best m_firstCode m_rivalMany m_certain m_possible m_goods m_setKept m_lastKept m_lastFar))) ∧
    (¬ (m_now (0 : Int32).toNatClampNeg) ≤ v5 →
      wp_X9_how m_now m_firstCode v5 (fun r54_12 =>
        (r54_12 = (2 : Int32) →
          wp_X9_on_b66 m_now Q (fun y0 y1 y2 y3 y4 y5 y6 y7 y8 y9 y10 y11 y12 y13 y14 => wp_X9_on_h36 m_now Q  n y0 y1 y2 y3 y4 y5 y6 y7 y8 y9 y10 y11 y12 y13 y14) (0 : Int32) v1 v2 v3 v4 v5 m_isKnown m_best m_firstCode m_rivalMany m_certain m_possible m_goods m_setKept m_lastKept m_lastFar) ∧
        (¬ r54_12 = (2 : Int32) →
          wp_X9_on_b66 m_now Q (fun y0 y1 y2 y3 y4 y5 y6 y7 y8 y9 y10 y11 y12 y13 y14 => wp_X9_on_h36 m_now Q  n y0 y1 y2 y3 y4 y5 y6 y7 y8 y9 y10 y11 y12 y13 y14) (1 : Int32) v1 v2 v3 v4 v5 m_isKnown m_best m_firstCode m_rivalMany m_certain m_possible m_goods m_setKept m_lastKept m_lastFar)))
def wp_X9_on_b20 (m_now : Nat → Int32) (Q : Int32 → Int32 → Int32 → Int32 → Int64 → Int32 → Int32 → (Nat → Int32) → Int32 → Int32 → Int32 → Prop) (m_isKnown : Int32) (m_best : Int32) (m_firstCode : Int32) (m_rivalMany : Int64) (m_certain : Int32) (m_possible : Int32) (m_goods : Nat → Int32) (m_setKept : Int32) (m_lastKept : Int32) (m_lastFar : Int32) : Prop :=
  Q (-1 : Int32) m_isKnown m_best m_firstCode m_rivalMany m_certain m_possible m_goods m_setKept m_lastKept m_lastFar
def wp_X9_on (m_now : Nat → Int32) (m_isKnown : Int32) (m_best : Int32) (m_firstCode : Int32) (m_rivalMany : Int64) (m_certain : Int32) (m_possible : Int32) (m_goods : Nat → Int32) (m_setKept : Int32) (m_lastKept : Int32) (m_lastFar : Int32) (p1 : Int32) (p2 : Int32) (Q : Int32 → Int32 → Int32 → Int32 → Int64 → Int32 → Int32 → (Nat → Int32) → Int32 → Int32 → Int32 → Prop) : Prop :=
  wp_X9_in p1 (0 : Int32) (999 : Int32) (fun r5_13 =>
    (r5_13 = 0 →
      wp_X9_on_b20 m_now Q  m_isKnown m_best m_firstCode m_rivalMany m_certain m_possible m_goods m_setKept m_lastKept m_lastFar) ∧
    (¬ r5_13 = 0 →
      wp_X9_in p2 (0 : Int32) (1 : Int32) (fun r14_14 =>
        (¬ r14_14 = 0 →
          wp_X9_knows m_now m_isKnown m_best m_firstCode m_rivalMany m_certain m_possible m_goods m_setKept m_lastKept m_lastFar (fun m_isKnown_23_15 m_best_23_16 m_firstCode_23_17 m_rivalMany_23_18 m_certain_23_19 m_possible_23_20 m_goods_23_21 m_setKept_23_22 m_lastKept_23_23 m_lastFar_23_24 =>
            ∃ n36, wp_X9_on_h36 m_now Q  n36 p1 p2 (-9 : Int32) (-9 : Int32) (0 : Int32) m_isKnown_23_15 m_best_23_16 m_firstCode_23_17 m_rivalMany_23_18 m_certain_23_19 m_possible_23_20 m_goods_23_21 m_setKept_23_22 m_lastKept_23_23 m_lastFar_23_24)) ∧
        (r14_14 = 0 →
          wp_X9_on_b20 m_now Q  m_isKnown m_best m_firstCode m_rivalMany m_certain m_possible m_goods m_setKept m_lastKept m_lastFar))))
def wp_X4_plateOn_b50 (p_held : Nat → Int32) (p_start : Int32) (ce_days : Nat → Int32) (ce_seconds : Nat → Int32) (ce_size : Int32) (Q : Int32 → Prop) (K7 : Int32 → Int32 → Int32 → Prop) (v1 : Int32) (v2 : Int32) (v3 : Int32) : Prop :=
  ∀ x50_1 : Int32, x50_1 = v3 + 1 →
  K7 v1 v2 x50_1
def wp_X4_plateOn_h7 (p_held : Nat → Int32) (p_start : Int32) (ce_days : Nat → Int32) (ce_seconds : Nat → Int32) (ce_size : Int32) (Q : Int32 → Prop) : Nat → Int32 → Int32 → Int32 → Prop
  | 0 => fun _ _ _ => False
  | n + 1 => fun v1 v2 v3 =>
    (ce_size ≤ v3 →
      Q v2) ∧
    (¬ ce_size ≤ v3 →
      vp_in v3 6 ∧
      ((p_held v3.toNatClampNeg) = 0 →
        wp_X4_plateOn_b50 p_held p_start ce_days ce_seconds ce_size Q (fun y0 y1 y2 => wp_X4_plateOn_h7 p_held p_start ce_days ce_seconds ce_size Q  n y0 y1 y2) v1 v2 v3) ∧
      (¬ (p_held v3.toNatClampNeg) = 0 →
        vp_in v3 6 ∧
        (v1 < (ce_days v3.toNatClampNeg) →
          wp_X4_plateOn_b50 p_held p_start ce_days ce_seconds ce_size Q (fun y0 y1 y2 => wp_X4_plateOn_h7 p_held p_start ce_days ce_seconds ce_size Q  n y0 y1 y2) v1 v2 v3) ∧
        (¬ v1 < (ce_days v3.toNatClampNeg) →
          vp_in v3 6 ∧
          ∀ x49_2 : Int32, x49_2 = (ce_seconds v3.toNatClampNeg) →
          wp_X4_plateOn_b50 p_held p_start ce_days ce_seconds ce_size Q (fun y0 y1 y2 => wp_X4_plateOn_h7 p_held p_start ce_days ce_seconds ce_size Q  n y0 y1 y2) v1 x49_2 v3)))
def wp_X4_plateOn (p_held : Nat → Int32) (p_start : Int32) (ce_days : Nat → Int32) (ce_seconds : Nat → Int32) (ce_size : Int32) (p1 : Int32) (Q : Int32 → Prop) : Prop :=
  ∃ n7, wp_X4_plateOn_h7 p_held p_start ce_days ce_seconds ce_size Q  n7 p1 p_start (0 : Int32)
def wp_X8_plate (p_held : Nat → Int32) (p_start : Int32) (ce_days : Nat → Int32) (ce_seconds : Nat → Int32) (ce_size : Int32) (p1 : Int32) (Q : Int32 → Prop) : Prop :=
  wp_X8_isDay p1 (fun r1_1 =>
    (¬ r1_1 = 0 →
      wp_X4_plateOn p_held p_start ce_days ce_seconds ce_size p1 (fun r14_2 =>
        Q r14_2)) ∧
    (r1_1 = 0 →
      Q (-1 : Int32)))
def wp_X9_plate_b66 (m_changeMany : Int32) (m_start : Int32) (m_changeDays : Nat → Int32) (m_was : Nat → Int32) (m_then : Nat → Int32) (Q : Int32 → Prop) (K26 : Int32 → Int32 → Int32 → Int32 → Prop) (k0 : Int32) (v1 : Int32) (v3 : Int32) (v4 : Int32) : Prop :=
  ∀ x67_1 : Int32, x67_1 = v4 + 1 →
  K26 v1 k0 v3 x67_1
def wp_X9_plate_b65 (m_changeMany : Int32) (m_start : Int32) (m_changeDays : Nat → Int32) (m_was : Nat → Int32) (m_then : Nat → Int32) (Q : Int32 → Prop) (K26 : Int32 → Int32 → Int32 → Int32 → Prop) (v1 : Int32) (v2 : Int32) (v3 : Int32) (v4 : Int32) : Prop :=
  wp_X9_plate_b66 m_changeMany m_start m_changeDays m_was m_then Q K26 v2 v1 v3 v4
def wp_X9_plate_h26 (m_changeMany : Int32) (m_start : Int32) (m_changeDays : Nat → Int32) (m_was : Nat → Int32) (m_then : Nat → Int32) (Q : Int32 → Prop) : Nat → Int32 → Int32 → Int32 → Int32 → Prop
  | 0 => fun _ _ _ _ => False
  | n + 1 => fun v1 v2 v3 v4 =>
    (m_changeMany ≤ v4 →
      Q v2) ∧
    (¬ m_changeMany ≤ v4 →
      wp_X9_has v3 v4 (fun r38_2 =>
        (r38_2 = 0 →
          wp_X9_plate_b65 m_changeMany m_start m_changeDays m_was m_then Q (fun y0 y1 y2 y3 => wp_X9_plate_h26 m_changeMany m_start m_changeDays m_was m_then Q  n y0 y1 y2 y3) v1 v2 v3 v4) ∧
        (¬ r38_2 = 0 →
          vp_in v4 6 ∧
          (v1 < (m_changeDays v4.toNatClampNeg) →
            wp_X9_plate_b65 m_changeMany m_start m_changeDays m_was m_then Q (fun y0 y1 y2 y3 => wp_X9_plate_h26 m_changeMany m_start m_changeDays m_was m_then Q  n y0 y1 y2 y3) v1 v2 v3 v4) ∧
          (¬ v1 < (m_changeDays v4.toNatClampNeg) →
            vp_in v4 6 ∧
            wp_X9_plate_b66 m_changeMany m_start m_changeDays m_was m_then Q (fun y0 y1 y2 y3 => wp_X9_plate_h26 m_changeMany m_start m_changeDays m_was m_then Q  n y0 y1 y2 y3) (m_then v4.toNatClampNeg) v1 v3 v4))))
def wp_X9_plate (m_changeMany : Int32) (m_start : Int32) (m_changeDays : Nat → Int32) (m_was : Nat → Int32) (m_then : Nat → Int32) (p1 : Int32) (Q : Int32 → Prop) : Prop :=
  wp_X9_in p1 (0 : Int32) (999 : Int32) (fun r5_3 =>
    (¬ r5_3 = 0 →
      wp_X9_held m_changeMany m_start m_was m_then (fun r19_4 =>
        ∃ n26, wp_X9_plate_h26 m_changeMany m_start m_changeDays m_was m_then Q  n26 p1 m_start r19_4 (0 : Int32))) ∧
    (r5_3 = 0 →
      Q (-1 : Int32)))
def wp_J6_numberOfTrailingZeros_0f7a4_b74 (Q : Int32 → Prop) (v0 : Int32) (v1 : Int32) : Prop :=
  ∀ x77_1 : Int32, x77_1 = (v0.toUInt32 >>> ((1 : Int32).toUInt32 &&& Int32.toUInt32 31)).toInt32 →
  Q (v1 + x77_1)
def wp_J6_numberOfTrailingZeros_0f7a4_b62 (Q : Int32 → Prop) (v0 : Int32) (v1 : Int32) : Prop :=
  (v0 ≤ (4 : Int32) →
    wp_J6_numberOfTrailingZeros_0f7a4_b74 Q  v0 v1) ∧
  (¬ v0 ≤ (4 : Int32) →
    ∀ x67_2 : Int32, x67_2 = v1 + 2 →
    ∀ x72_3 : Int32, x72_3 = (v0.toUInt32 >>> ((2 : Int32).toUInt32 &&& Int32.toUInt32 31)).toInt32 →
    wp_J6_numberOfTrailingZeros_0f7a4_b74 Q  x72_3 x67_2)
def wp_J6_numberOfTrailingZeros_0f7a4_b49 (Q : Int32 → Prop) (v0 : Int32) (v1 : Int32) : Prop :=
  (v0 ≤ (16 : Int32) →
    wp_J6_numberOfTrailingZeros_0f7a4_b62 Q  v0 v1) ∧
  (¬ v0 ≤ (16 : Int32) →
    ∀ x55_4 : Int32, x55_4 = v1 + 4 →
    ∀ x60_5 : Int32, x60_5 = (v0.toUInt32 >>> ((4 : Int32).toUInt32 &&& Int32.toUInt32 31)).toInt32 →
    wp_J6_numberOfTrailingZeros_0f7a4_b62 Q  x60_5 x55_4)
def wp_J6_numberOfTrailingZeros_0f7a4_b34 (Q : Int32 → Prop) (v0 : Int32) (v1 : Int32) : Prop :=
  (v0 ≤ (256 : Int32) →
    wp_J6_numberOfTrailingZeros_0f7a4_b49 Q  v0 v1) ∧
  (¬ v0 ≤ (256 : Int32) →
    ∀ x41_6 : Int32, x41_6 = v1 + 8 →
    ∀ x47_7 : Int32, x47_7 = (v0.toUInt32 >>> ((8 : Int32).toUInt32 &&& Int32.toUInt32 31)).toInt32 →
    wp_J6_numberOfTrailingZeros_0f7a4_b49 Q  x47_7 x41_6)
def wp_J6_numberOfTrailingZeros_0f7a4 (p0 : Int32) (Q : Int32 → Prop) : Prop :=
  ∀ x7_8 : Int32, x7_8 = ((p0 ^^^ (-1 : Int32)) &&& (p0 - (1 : Int32))) →
  (0 < x7_8 →
    (x7_8 ≤ (65536 : Int32) →
      wp_J6_numberOfTrailingZeros_0f7a4_b34 Q  x7_8 (1 : Int32)) ∧
    (¬ x7_8 ≤ (65536 : Int32) →
      ∀ x32_9 : Int32, x32_9 = (x7_8.toUInt32 >>> ((16 : Int32).toUInt32 &&& Int32.toUInt32 31)).toInt32 →
      wp_J6_numberOfTrailingZeros_0f7a4_b34 Q  x32_9 (17 : Int32))) ∧
  (¬ 0 < x7_8 →
    Q (x7_8 &&& (32 : Int32)))
def wp_X2_lastOf_b22 (e_size : Int32) (Q : Int32 → Prop) (k0 : Int32) : Prop :=
  Q k0
def wp_X2_lastOf (e_size : Int32) (p1 : Int32) (Q : Int32 → Prop) : Prop :=
  (¬ p1 = 0 →
    wp_X6_size e_size (fun r12_1 =>
      wp_J6_numberOfTrailingZeros_0f7a4 p1 (fun r18_2 =>
        wp_X2_lastOf_b22 e_size Q  ((r12_1 - (1 : Int32)) - r18_2)))) ∧
  (p1 = 0 →
    wp_X2_lastOf_b22 e_size Q  (-1 : Int32))
def wp_X2_keepBehind (h_rate : Int32) (s_days : Nat → Int32) (s_fars : Nat → Int32) (s_goods : Nat → Int32) (l_kept : Nat → Int32) (p1 : Int32) (p2 : Int32) (p3 : Int32) (Q : Int32 → (Nat → Int32) → Prop) : Prop :=
  wp_X6_following h_rate s_days s_fars p1 p2 p3 (fun r7_1 =>
    (0 ≤ r7_1 →
      vp_in r7_1 88 ∧
      vp_in p1 88 ∧
      vp_in r7_1 88 ∧
      ∀ x49_2 : Int32, x49_2 = (if (l_kept r7_1.toNatClampNeg) < ((l_kept p1.toNatClampNeg) + (s_goods r7_1.toNatClampNeg)) then ((l_kept p1.toNatClampNeg) + (s_goods r7_1.toNatClampNeg)) else (l_kept r7_1.toNatClampNeg)) →
      vp_in r7_1 88 ∧
      vp_in r7_1 88 ∧
      Q ((upd l_kept r7_1.toNatClampNeg x49_2) r7_1.toNatClampNeg) (upd l_kept r7_1.toNatClampNeg x49_2)) ∧
    (¬ 0 ≤ r7_1 →
      Q (-1 : Int32) l_kept))
def wp_X2_keepLast_b92 (h_rate : Int32) (s_days : Nat → Int32) (s_fars : Nat → Int32) (s_goods : Nat → Int32) (Q : Int32 → (Nat → Int32) → Prop) (K46 : Int32 → Int32 → Int32 → Int32 → (Nat → Int32) → Prop) (v2 : Int32) (v4 : Int32) (v5 : Int32) (v6 : Int32) (l_kept : Nat → Int32) : Prop :=
  ∀ x92_1 : Int32, x92_1 = v6 + 1 →
  K46 v2 v4 v5 x92_1 l_kept
def wp_X2_keepLast_h46 (h_rate : Int32) (s_days : Nat → Int32) (s_fars : Nat → Int32) (s_goods : Nat → Int32) (Q : Int32 → (Nat → Int32) → Prop) : Nat → Int32 → Int32 → Int32 → Int32 → (Nat → Int32) → Prop
  | 0 => fun _ _ _ _ _ => False
  | n + 1 => fun v2 v4 v5 v6 l_kept =>
    ((v4 + (8 : Int32)) ≤ v6 →
      Q v5 l_kept) ∧
    (¬ (v4 + (8 : Int32)) ≤ v6 →
      vp_in v6 88 ∧
      ((l_kept v6.toNatClampNeg) < 0 →
        wp_X2_keepLast_b92 h_rate s_days s_fars s_goods Q (fun y0 y1 y2 y3 y4 => wp_X2_keepLast_h46 h_rate s_days s_fars s_goods Q  n y0 y1 y2 y3 y4) v2 v4 v5 v6 l_kept) ∧
      (¬ (l_kept v6.toNatClampNeg) < 0 →
        wp_X2_keepBehind h_rate s_days s_fars s_goods l_kept v6 v2 (0 : Int32) (fun r73_3 l_kept_73_2 =>
          wp_X2_keepBehind h_rate s_days s_fars s_goods l_kept_73_2 v6 v2 (1 : Int32) (fun r81_5 l_kept_81_4 =>
            ∀ x84_6 : Int32, x84_6 = (if r73_3 < r81_5 then r81_5 else r73_3) →
            ∀ x87_7 : Int32, x87_7 = (if v5 < x84_6 then x84_6 else v5) →
            wp_X2_keepLast_b92 h_rate s_days s_fars s_goods Q (fun y0 y1 y2 y3 y4 => wp_X2_keepLast_h46 h_rate s_days s_fars s_goods Q  n y0 y1 y2 y3 y4) v2 v4 x87_7 v6 l_kept_81_4))))
def wp_X2_keepLast_h9 (h_rate : Int32) (s_days : Nat → Int32) (s_fars : Nat → Int32) (s_goods : Nat → Int32) (Q : Int32 → (Nat → Int32) → Prop) : Nat → Int32 → Int32 → Int32 → Int32 → (Nat → Int32) → Prop
  | 0 => fun _ _ _ _ _ => False
  | n + 1 => fun v1 v2 v3 v4 l_kept =>
    ((8 : Int32) ≤ v4 →
      wp_X6_standOf v1 (0 : Int32) (fun r34_8 =>
        ∃ n46, wp_X2_keepLast_h46 h_rate s_days s_fars s_goods Q  n46 v2 r34_8 (-1 : Int32) r34_8 l_kept)) ∧
    (¬ (8 : Int32) ≤ v4 →
      vp_in (v3 + v4) 88 ∧
      ∀ x26_9 : Int32, x26_9 = v4 + 1 →
      wp_X2_keepLast_h9 h_rate s_days s_fars s_goods Q  n v1 v2 v3 x26_9 (upd l_kept (v3 + v4).toNatClampNeg (-1 : Int32)))
def wp_X2_keepLast (h_rate : Int32) (s_days : Nat → Int32) (s_fars : Nat → Int32) (s_goods : Nat → Int32) (l_kept : Nat → Int32) (p1 : Int32) (p2 : Int32) (Q : Int32 → (Nat → Int32) → Prop) : Prop :=
  wp_X6_standOf p2 (0 : Int32) (fun r2_10 =>
    ∃ n9, wp_X2_keepLast_h9 h_rate s_days s_fars s_goods Q  n9 p1 p2 r2_10 (0 : Int32) l_kept)
def wp_X2_bestWithoutOne_b28 (l_bests : Nat → Int32) (Q : Int32 → Prop) (K4 : Int32 → Int32 → Int32 → Prop) (v1 : Int32) (v2 : Int32) (v3 : Int32) : Prop :=
  ∀ x31_1 : Int32, x31_1 = (v3 <<< ((1 : Int32) &&& 31)) →
  K4 v1 v2 x31_1
def wp_X2_bestWithoutOne_h4 (l_bests : Nat → Int32) (Q : Int32 → Prop) : Nat → Int32 → Int32 → Int32 → Prop
  | 0 => fun _ _ _ => False
  | n + 1 => fun v1 v2 v3 =>
    (v1 < v3 →
      Q v2) ∧
    (¬ v1 < v3 →
      ((v1 &&& v3) = 0 →
        wp_X2_bestWithoutOne_b28 l_bests Q (fun y0 y1 y2 => wp_X2_bestWithoutOne_h4 l_bests Q  n y0 y1 y2) v1 v2 v3) ∧
      (¬ (v1 &&& v3) = 0 →
        vp_in (v1 - v3) 1024 ∧
        ∀ x24_2 : Int32, x24_2 = (if v2 < (l_bests (v1 - v3).toNatClampNeg) then (l_bests (v1 - v3).toNatClampNeg) else v2) →
        wp_X2_bestWithoutOne_b28 l_bests Q (fun y0 y1 y2 => wp_X2_bestWithoutOne_h4 l_bests Q  n y0 y1 y2) v1 x24_2 v3))
def wp_X2_bestWithoutOne (l_bests : Nat → Int32) (p1 : Int32) (Q : Int32 → Prop) : Prop :=
  ∃ n4, wp_X2_bestWithoutOne_h4 l_bests Q  n4 p1 (0 : Int32) (1 : Int32)
def wp_X2_findBests_h24 (h_rate : Int32) (e_size : Int32) (s_days : Nat → Int32) (s_fars : Nat → Int32) (s_goods : Nat → Int32) (Q : (Nat → Int32) → (Nat → Int32) → Int32 → Prop) : Nat → Int32 → (Nat → Int32) → (Nat → Int32) → Int32 → Prop
  | 0 => fun _ _ _ _ => False
  | n + 1 => fun v1 l_bests l_kept l_known =>
    wp_X6_size e_size (fun r30_1 =>
      (((1 : Int32) <<< (r30_1 &&& 31)) ≤ v1 →
        Q l_bests l_kept (1 : Int32)) ∧
      (¬ ((1 : Int32) <<< (r30_1 &&& 31)) ≤ v1 →
        wp_X2_lastOf e_size (v1 &&& (v1 - (1 : Int32))) (fun r44_2 =>
          wp_X2_lastOf e_size v1 (fun r49_3 =>
            wp_X2_keepLast h_rate s_days s_fars s_goods l_kept r44_2 r49_3 (fun r52_5 l_kept_52_4 =>
              wp_X2_bestWithoutOne l_bests v1 (fun r64_6 =>
                ∀ x67_7 : Int32, x67_7 = (if r52_5 < r64_6 then r64_6 else r52_5) →
                vp_in v1 1024 ∧
                ∀ x71_8 : Int32, x71_8 = v1 + 1 →
                wp_X2_findBests_h24 h_rate e_size s_days s_fars s_goods Q  n x71_8 (upd l_bests v1.toNatClampNeg x67_7) l_kept_52_4 l_known))))))
def wp_X2_findBests (h_rate : Int32) (e_size : Int32) (s_days : Nat → Int32) (s_fars : Nat → Int32) (s_goods : Nat → Int32) (l_bests : Nat → Int32) (l_kept : Nat → Int32) (l_known : Int32) (Q : (Nat → Int32) → (Nat → Int32) → Int32 → Prop) : Prop :=
  wp_J7_fill_53178 88 l_kept (-1 : Int32) (fun f_row_5_9 =>
    ∃ n24, wp_X2_findBests_h24 h_rate e_size s_days s_fars s_goods Q  n24 (1 : Int32) (upd l_bests (0 : Int32).toNatClampNeg (0 : Int32)) (upd f_row_5_9 (0 : Int32).toNatClampNeg (0 : Int32)) l_known)
def wp_J6_bitCount_0f7a4 (p0 : Int32) (Q : Int32 → Prop) : Prop :=
  ∀ x3_1 : Int32, x3_1 = (p0.toUInt32 >>> ((1 : Int32).toUInt32 &&& Int32.toUInt32 31)).toInt32 →
  ∀ x9_2 : Int32, x9_2 = (p0 - (x3_1 &&& (1431655765 : Int32))) →
  ∀ x17_3 : Int32, x17_3 = (x9_2.toUInt32 >>> ((2 : Int32).toUInt32 &&& Int32.toUInt32 31)).toInt32 →
  ∀ x23_4 : Int32, x23_4 = ((x9_2 &&& (858993459 : Int32)) + (x17_3 &&& (858993459 : Int32))) →
  ∀ x27_5 : Int32, x27_5 = (x23_4.toUInt32 >>> ((4 : Int32).toUInt32 &&& Int32.toUInt32 31)).toInt32 →
  ∀ x33_6 : Int32, x33_6 = ((x23_4 + x27_5) &&& (252645135 : Int32)) →
  ∀ x38_7 : Int32, x38_7 = (x33_6.toUInt32 >>> ((8 : Int32).toUInt32 &&& Int32.toUInt32 31)).toInt32 →
  ∀ x40_8 : Int32, x40_8 = (x33_6 + x38_7) →
  ∀ x45_9 : Int32, x45_9 = (x40_8.toUInt32 >>> ((16 : Int32).toUInt32 &&& Int32.toUInt32 31)).toInt32 →
  ∀ x47_10 : Int32, x47_10 = (x40_8 + x45_9) →
  Q (x47_10 &&& (63 : Int32))
def wp_X2_countEnough_b46 (e_size : Int32) (l_bests : Nat → Int32) (Q : (Nat → Int32) → Prop) (K10 : Int32 → Int32 → (Nat → Int32) → Prop) (v1 : Int32) (v2 : Int32) (l_enough : Nat → Int32) : Prop :=
  ∀ x46_1 : Int32, x46_1 = v2 + 1 →
  K10 v1 x46_1 l_enough
def wp_X2_countEnough_h10 (e_size : Int32) (l_bests : Nat → Int32) (Q : (Nat → Int32) → Prop) : Nat → Int32 → Int32 → (Nat → Int32) → Prop
  | 0 => fun _ _ _ => False
  | n + 1 => fun v1 v2 l_enough =>
    wp_X6_size e_size (fun r16_2 =>
      (((1 : Int32) <<< (r16_2 &&& 31)) ≤ v2 →
        Q l_enough) ∧
      (¬ ((1 : Int32) <<< (r16_2 &&& 31)) ≤ v2 →
        vp_in v2 1024 ∧
        ((l_bests v2.toNatClampNeg) < v1 →
          wp_X2_countEnough_b46 e_size l_bests Q (fun y0 y1 y2 => wp_X2_countEnough_h10 e_size l_bests Q  n y0 y1 y2) v1 v2 l_enough) ∧
        (¬ (l_bests v2.toNatClampNeg) < v1 →
          wp_J6_bitCount_0f7a4 v2 (fun r38_3 =>
            vp_in r38_3 11 ∧
            ∀ x45_4 : Int32, x45_4 = ((l_enough r38_3.toNatClampNeg) + (1 : Int32)) →
            vp_in r38_3 11 ∧
            wp_X2_countEnough_b46 e_size l_bests Q (fun y0 y1 y2 => wp_X2_countEnough_h10 e_size l_bests Q  n y0 y1 y2) v1 v2 (upd l_enough r38_3.toNatClampNeg x45_4)))))
def wp_X2_countEnough (e_size : Int32) (l_bests : Nat → Int32) (l_enough : Nat → Int32) (p1 : Int32) (Q : (Nat → Int32) → Prop) : Prop :=
  wp_J7_fill_53178 11 l_enough (0 : Int32) (fun f_row_5_5 =>
    ∃ n10, wp_X2_countEnough_h10 e_size l_bests Q  n10 p1 (0 : Int32) f_row_5_5)
def wp_X2_power_h5 (Q : Int64 → Prop) : Nat → Int32 → Int32 → Int64 → Int32 → Prop
  | 0 => fun _ _ _ _ => False
  | n + 1 => fun v0 v1 v2 v4 =>
    (v1 ≤ v4 →
      Q v2) ∧
    (¬ v1 ≤ v4 →
      ∀ x15_1 : Int64, x15_1 = (v2 * v0.toInt64) →
      ∀ x16_2 : Int32, x16_2 = v4 + 1 →
      wp_X2_power_h5 Q  n v0 v1 x15_1 x16_2)
def wp_X2_power (p0 : Int32) (p1 : Int32) (Q : Int64 → Prop) : Prop :=
  ∃ n5, wp_X2_power_h5 Q  n5 p0 p1 (1 : Int64) (0 : Int32)
def wp_X2_weightOf_h30 (h_rate : Int32) (e_size : Int32) (s_days : Nat → Int32) (s_fars : Nat → Int32) (s_goods : Nat → Int32) (Q : Int64 → (Nat → Int32) → (Nat → Int32) → (Nat → Int32) → Int32 → Prop) : Nat → Int32 → Int32 → Int64 → Int32 → (Nat → Int32) → (Nat → Int32) → (Nat → Int32) → Int32 → Prop
  | 0 => fun _ _ _ _ _ _ _ _ => False
  | n + 1 => fun v1 v3 v4 v6 l_bests l_kept l_enough l_known =>
    (v3 < v6 →
      Q v4 l_bests l_kept l_enough l_known) ∧
    (¬ v3 < v6 →
      vp_in v6 11 ∧
      wp_X2_power ((10 : Int32) - v1) v6 (fun r52_1 =>
        wp_X2_power v1 (v3 - v6) (fun r61_2 =>
          ∀ x66_3 : Int64, x66_3 = (v4 + (((l_enough v6.toNatClampNeg).toInt64 * r52_1) * r61_2)) →
          ∀ x68_4 : Int32, x68_4 = v6 + 1 →
          wp_X2_weightOf_h30 h_rate e_size s_days s_fars s_goods Q  n v1 v3 x66_3 x68_4 l_bests l_kept l_enough l_known)))
def wp_X2_weightOf_b11 (h_rate : Int32) (e_size : Int32) (s_days : Nat → Int32) (s_fars : Nat → Int32) (s_goods : Nat → Int32) (Q : Int64 → (Nat → Int32) → (Nat → Int32) → (Nat → Int32) → Int32 → Prop) (v1 : Int32) (v2 : Int32) (l_bests : Nat → Int32) (l_kept : Nat → Int32) (l_enough : Nat → Int32) (l_known : Int32) : Prop :=
  wp_X2_countEnough e_size l_bests l_enough v2 (fun l_enough_13_5 =>
    wp_X6_size e_size (fun r20_6 =>
      ∃ n30, wp_X2_weightOf_h30 h_rate e_size s_days s_fars s_goods Q  n30 v1 r20_6 (0 : Int64) (0 : Int32) l_bests l_kept l_enough_13_5 l_known))
def wp_X2_weightOf (h_rate : Int32) (e_size : Int32) (s_days : Nat → Int32) (s_fars : Nat → Int32) (s_goods : Nat → Int32) (l_bests : Nat → Int32) (l_kept : Nat → Int32) (l_enough : Nat → Int32) (l_known : Int32) (p1 : Int32) (p2 : Int32) (Q : Int64 → (Nat → Int32) → (Nat → Int32) → (Nat → Int32) → Int32 → Prop) : Prop :=
  (¬ l_known = 0 →
    wp_X2_weightOf_b11 h_rate e_size s_days s_fars s_goods Q  p1 p2 l_bests l_kept l_enough l_known) ∧
  (l_known = 0 →
    wp_X2_findBests h_rate e_size s_days s_fars s_goods l_bests l_kept l_known (fun l_bests_8_7 l_kept_8_8 l_known_8_9 =>
      wp_X2_weightOf_b11 h_rate e_size s_days s_fars s_goods Q  p1 p2 l_bests_8_7 l_kept_8_8 l_enough l_known_8_9))
def wp_X8_odds_b169 (h_rate : Int32) (e_size : Int32) (s_days : Nat → Int32) (s_fars : Nat → Int32) (s_goods : Nat → Int32) (Q : Int64 → (Nat → Int32) → (Nat → Int32) → (Nat → Int32) → Int32 → Prop) (k0 : Int64) (l_bests : Nat → Int32) (l_kept : Nat → Int32) (l_enough : Nat → Int32) (l_known : Int32) : Prop :=
  Q k0 l_bests l_kept l_enough l_known
def wp_X8_odds_b152 (h_rate : Int32) (e_size : Int32) (s_days : Nat → Int32) (s_fars : Nat → Int32) (s_goods : Nat → Int32) (Q : Int64 → (Nat → Int32) → (Nat → Int32) → (Nat → Int32) → Int32 → Prop) (K69 : Int32 → Int32 → Int64 → Int64 → Int32 → (Nat → Int32) → (Nat → Int32) → (Nat → Int32) → Int32 → Prop) (v3 : Int32) (v4 : Int32) (v5 : Int64) (v7 : Int64) (v9 : Int32) (l_bests : Nat → Int32) (l_kept : Nat → Int32) (l_enough : Nat → Int32) (l_known : Int32) : Prop :=
  ∀ x152_1 : Int32, x152_1 = v9 + 1 →
  K69 v3 v4 v5 v7 x152_1 l_bests l_kept l_enough l_known
def wp_X8_odds_b114 (h_rate : Int32) (e_size : Int32) (s_days : Nat → Int32) (s_fars : Nat → Int32) (s_goods : Nat → Int32) (Q : Int64 → (Nat → Int32) → (Nat → Int32) → (Nat → Int32) → Int32 → Prop) (K69 : Int32 → Int32 → Int64 → Int64 → Int32 → (Nat → Int32) → (Nat → Int32) → (Nat → Int32) → Int32 → Prop) (v3 : Int32) (v4 : Int32) (v5 : Int64) (v7 : Int64) (v9 : Int32) (l_bests : Nat → Int32) (l_kept : Nat → Int32) (l_enough : Nat → Int32) (l_known : Int32) : Prop :=
  (¬ (lg_cmp (v5 - v5 / (5 : Int64) * (5 : Int64)) (0 : Int64)) = 0 →
    wp_X8_odds_b152 h_rate e_size s_days s_fars s_goods Q K69 v3 v4 v5 v7 v9 l_bests l_kept l_enough l_known) ∧
  ((lg_cmp (v5 - v5 / (5 : Int64) * (5 : Int64)) (0 : Int64)) = 0 →
    (¬ (lg_cmp (v7 - v7 / (5 : Int64) * (5 : Int64)) (0 : Int64)) = 0 →
      wp_X8_odds_b152 h_rate e_size s_days s_fars s_goods Q K69 v3 v4 v5 v7 v9 l_bests l_kept l_enough l_known) ∧
    ((lg_cmp (v7 - v7 / (5 : Int64) * (5 : Int64)) (0 : Int64)) = 0 →
      ∀ x142_2 : Int64, x142_2 = (v5 / (5 : Int64)) →
      ∀ x150_3 : Int64, x150_3 = (v7 / (5 : Int64)) →
      wp_X8_odds_b152 h_rate e_size s_days s_fars s_goods Q K69 v3 v4 x142_2 x150_3 v9 l_bests l_kept l_enough l_known))
def wp_X8_odds_h69 (h_rate : Int32) (e_size : Int32) (s_days : Nat → Int32) (s_fars : Nat → Int32) (s_goods : Nat → Int32) (Q : Int64 → (Nat → Int32) → (Nat → Int32) → (Nat → Int32) → Int32 → Prop) : Nat → Int32 → Int32 → Int64 → Int64 → Int32 → (Nat → Int32) → (Nat → Int32) → (Nat → Int32) → Int32 → Prop
  | 0 => fun _ _ _ _ _ _ _ _ _ => False
  | n + 1 => fun v3 v4 v5 v7 v9 l_bests l_kept l_enough l_known =>
    (v4 ≤ v9 →
      (¬ v3 = 0 →
        wp_X8_odds_b169 h_rate e_size s_days s_fars s_goods Q  v7 l_bests l_kept l_enough l_known) ∧
      (v3 = 0 →
        wp_X8_odds_b169 h_rate e_size s_days s_fars s_goods Q  v5 l_bests l_kept l_enough l_known)) ∧
    (¬ v4 ≤ v9 →
      (¬ (lg_cmp (v5 - v5 / (2 : Int64) * (2 : Int64)) (0 : Int64)) = 0 →
        wp_X8_odds_b114 h_rate e_size s_days s_fars s_goods Q (fun y0 y1 y2 y3 y4 y5 y6 y7 y8 => wp_X8_odds_h69 h_rate e_size s_days s_fars s_goods Q  n y0 y1 y2 y3 y4 y5 y6 y7 y8) v3 v4 v5 v7 v9 l_bests l_kept l_enough l_known) ∧
      ((lg_cmp (v5 - v5 / (2 : Int64) * (2 : Int64)) (0 : Int64)) = 0 →
        (¬ (lg_cmp (v7 - v7 / (2 : Int64) * (2 : Int64)) (0 : Int64)) = 0 →
          wp_X8_odds_b114 h_rate e_size s_days s_fars s_goods Q (fun y0 y1 y2 y3 y4 y5 y6 y7 y8 => wp_X8_odds_h69 h_rate e_size s_days s_fars s_goods Q  n y0 y1 y2 y3 y4 y5 y6 y7 y8) v3 v4 v5 v7 v9 l_bests l_kept l_enough l_known) ∧
        ((lg_cmp (v7 - v7 / (2 : Int64) * (2 : Int64)) (0 : Int64)) = 0 →
          ∀ x104_4 : Int64, x104_4 = (v5 / (2 : Int64)) →
          ∀ x112_5 : Int64, x112_5 = (v7 / (2 : Int64)) →
          wp_X8_odds_b114 h_rate e_size s_days s_fars s_goods Q (fun y0 y1 y2 y3 y4 y5 y6 y7 y8 => wp_X8_odds_h69 h_rate e_size s_days s_fars s_goods Q  n y0 y1 y2 y3 y4 y5 y6 y7 y8) v3 v4 x104_4 x112_5 v9 l_bests l_kept l_enough l_known)))
def wp_X8_odds_b30 (h_rate : Int32) (e_size : Int32) (s_days : Nat → Int32) (s_fars : Nat → Int32) (s_goods : Nat → Int32) (Q : Int64 → (Nat → Int32) → (Nat → Int32) → (Nat → Int32) → Int32 → Prop) (l_bests : Nat → Int32) (l_kept : Nat → Int32) (l_enough : Nat → Int32) (l_known : Int32) : Prop :=
  Q (-1 : Int64) l_bests l_kept l_enough l_known
def wp_X8_odds (h_rate : Int32) (e_size : Int32) (s_days : Nat → Int32) (s_fars : Nat → Int32) (s_goods : Nat → Int32) (l_bests : Nat → Int32) (l_kept : Nat → Int32) (l_enough : Nat → Int32) (l_known : Int32) (p1 : Int32) (p2 : Int32) (p3 : Int32) (Q : Int64 → (Nat → Int32) → (Nat → Int32) → (Nat → Int32) → Int32 → Prop) : Prop :=
  wp_X8_isWithin p1 (0 : Int32) (10 : Int32) (fun r4_6 =>
    (r4_6 = 0 →
      wp_X8_odds_b30 h_rate e_size s_days s_fars s_goods Q  l_bests l_kept l_enough l_known) ∧
    (¬ r4_6 = 0 →
      wp_X8_isWithin p2 (0 : Int32) (180 : Int32) (fun r15_7 =>
        (r15_7 = 0 →
          wp_X8_odds_b30 h_rate e_size s_days s_fars s_goods Q  l_bests l_kept l_enough l_known) ∧
        (¬ r15_7 = 0 →
          wp_X8_isWithin p3 (0 : Int32) (1 : Int32) (fun r24_8 =>
            (¬ r24_8 = 0 →
              wp_X2_weightOf h_rate e_size s_days s_fars s_goods l_bests l_kept l_enough l_known p1 p2 (fun r52_13 l_bests_52_9 l_kept_52_10 l_enough_52_11 l_known_52_12 =>
                wp_X2_power (10 : Int32) e_size (fun r61_14 =>
                  ∃ n69, wp_X8_odds_h69 h_rate e_size s_days s_fars s_goods Q  n69 p3 e_size r52_13 r61_14 (0 : Int32) l_bests_52_9 l_kept_52_10 l_enough_52_11 l_known_52_12))) ∧
            (r24_8 = 0 →
              wp_X8_odds_b30 h_rate e_size s_days s_fars s_goods Q  l_bests l_kept l_enough l_known))))))
def wp_X9_odds_b206 (m_now : Nat → Int32) (Q : Int64 → Int32 → Int32 → Int32 → Int64 → Int32 → Int32 → (Nat → Int32) → Int32 → Int32 → Int32 → Prop) (k0 : Int64) (m_isKnown : Int32) (m_best : Int32) (m_firstCode : Int32) (m_rivalMany : Int64) (m_certain : Int32) (m_possible : Int32) (m_goods : Nat → Int32) (m_setKept : Int32) (m_lastKept : Int32) (m_lastFar : Int32) : Prop :=
  Q k0 m_isKnown m_best m_firstCode m_rivalMany m_certain m_possible m_goods m_setKept m_lastKept m_lastFar
def wp_X9_odds_h164 (m_now : Nat → Int32) (Q : Int64 → Int32 → Int32 → Int32 → Int64 → Int32 → Int32 → (Nat → Int32) → Int32 → Int32 → Int32 → Prop) : Nat → Int32 → Int64 → Int64 → Int64 → Int64 → Int32 → Int32 → Int32 → Int64 → Int32 → Int32 → (Nat → Int32) → Int32 → Int32 → Int32 → Prop
  | 0 => fun _ _ _ _ _ _ _ _ _ _ _ _ _ _ _ => False
  | n + 1 => fun v3 v5 v7 v9 v11 m_isKnown m_best m_firstCode m_rivalMany m_certain m_possible m_goods m_setKept m_lastKept m_lastFar =>
    ((lg_cmp v11 (0 : Int64)) = 0 →
      (¬ v3 = 0 →
        ¬ v9 = 0 ∧
        wp_X9_odds_b206 m_now Q  (v5 / v9) m_isKnown m_best m_firstCode m_rivalMany m_certain m_possible m_goods m_setKept m_lastKept m_lastFar) ∧
      (v3 = 0 →
        ¬ v9 = 0 ∧
        wp_X9_odds_b206 m_now Q  (v7 / v9) m_isKnown m_best m_firstCode m_rivalMany m_certain m_possible m_goods m_setKept m_lastKept m_lastFar)) ∧
    (¬ (lg_cmp v11 (0 : Int64)) = 0 →
      ¬ v11 = 0 ∧
      ∀ x176_1 : Int64, x176_1 = (v9 - v9 / v11 * v11) →
      wp_X9_odds_h164 m_now Q  n v3 v5 v7 v11 x176_1 m_isKnown m_best m_firstCode m_rivalMany m_certain m_possible m_goods m_setKept m_lastKept m_lastFar)
def wp_X9_odds_b150 (m_now : Nat → Int32) (Q : Int64 → Int32 → Int32 → Int32 → Int64 → Int32 → Int32 → (Nat → Int32) → Int32 → Int32 → Int32 → Prop) (K79 : Int32 → Int32 → Int32 → Int32 → Int64 → Int64 → Int32 → Int32 → Int32 → Int32 → Int64 → Int32 → Int32 → (Nat → Int32) → Int32 → Int32 → Int32 → Prop) (v1 : Int32) (v2 : Int32) (v3 : Int32) (v4 : Int32) (v5 : Int64) (v7 : Int64) (v9 : Int32) (m_isKnown : Int32) (m_best : Int32) (m_firstCode : Int32) (m_rivalMany : Int64) (m_certain : Int32) (m_possible : Int32) (m_goods : Nat → Int32) (m_setKept : Int32) (m_lastKept : Int32) (m_lastFar : Int32) : Prop :=
  ∀ x150_2 : Int32, x150_2 = v9 + 1 →
  K79 v1 v2 v3 v4 v5 v7 x150_2 m_isKnown m_best m_firstCode m_rivalMany m_certain m_possible m_goods m_setKept m_lastKept m_lastFar
def wp_X9_odds_b134 (m_now : Nat → Int32) (Q : Int64 → Int32 → Int32 → Int32 → Int64 → Int32 → Int32 → (Nat → Int32) → Int32 → Int32 → Int32 → Prop) (K79 : Int32 → Int32 → Int32 → Int32 → Int64 → Int64 → Int32 → Int32 → Int32 → Int32 → Int64 → Int32 → Int32 → (Nat → Int32) → Int32 → Int32 → Int32 → Prop) (K105 : Int32 → Int32 → Int32 → Int32 → Int64 → Int64 → Int32 → Int64 → Int32 → Int32 → Int32 → Int32 → Int64 → Int32 → Int32 → (Nat → Int32) → Int32 → Int32 → Int32 → Prop) (k0 : Int64) (k1 : Int64) (v1 : Int32) (v2 : Int32) (v3 : Int32) (v4 : Int32) (v5 : Int64) (v7 : Int64) (v9 : Int32) (v12 : Int32) (m_isKnown : Int32) (m_best : Int32) (m_firstCode : Int32) (m_rivalMany : Int64) (m_certain : Int32) (m_possible : Int32) (m_goods : Nat → Int32) (m_setKept : Int32) (m_lastKept : Int32) (m_lastFar : Int32) : Prop :=
  ∀ x135_3 : Int64, x135_3 = (k1 * k0) →
  ∀ x137_4 : Int32, x137_4 = v12 + 1 →
  K105 v1 v2 v3 v4 v5 v7 v9 x135_3 x137_4 m_isKnown m_best m_firstCode m_rivalMany m_certain m_possible m_goods m_setKept m_lastKept m_lastFar
def wp_X9_odds_h105 (m_now : Nat → Int32) (Q : Int64 → Int32 → Int32 → Int32 → Int64 → Int32 → Int32 → (Nat → Int32) → Int32 → Int32 → Int32 → Prop) (K79 : Int32 → Int32 → Int32 → Int32 → Int64 → Int64 → Int32 → Int32 → Int32 → Int32 → Int64 → Int32 → Int32 → (Nat → Int32) → Int32 → Int32 → Int32 → Prop) : Nat → Int32 → Int32 → Int32 → Int32 → Int64 → Int64 → Int32 → Int64 → Int32 → Int32 → Int32 → Int32 → Int64 → Int32 → Int32 → (Nat → Int32) → Int32 → Int32 → Int32 → Prop
  | 0 => fun _ _ _ _ _ _ _ _ _ _ _ _ _ _ _ _ _ _ _ => False
  | n + 1 => fun v1 v2 v3 v4 v5 v7 v9 v10 v12 m_isKnown m_best m_firstCode m_rivalMany m_certain m_possible m_goods m_setKept m_lastKept m_lastFar =>
    (v4 ≤ v12 →
      ∀ x148_5 : Int64, x148_5 = (v7 + v10) →
      wp_X9_odds_b150 m_now Q K79 v1 v2 v3 v4 v5 x148_5 v9 m_isKnown m_best m_firstCode m_rivalMany m_certain m_possible m_goods m_setKept m_lastKept m_lastFar) ∧
    (¬ v4 ≤ v12 →
      wp_X9_has v9 v12 (fun r118_6 =>
        (r118_6 = 0 →
          wp_X9_odds_b134 m_now Q K79 (fun y0 y1 y2 y3 y4 y5 y6 y7 y8 y9 y10 y11 y12 y13 y14 y15 y16 y17 y18 => wp_X9_odds_h105 m_now Q K79 n y0 y1 y2 y3 y4 y5 y6 y7 y8 y9 y10 y11 y12 y13 y14 y15 y16 y17 y18) v1.toInt64 v10 v1 v2 v3 v4 v5 v7 v9 v12 m_isKnown m_best m_firstCode m_rivalMany m_certain m_possible m_goods m_setKept m_lastKept m_lastFar) ∧
        (¬ r118_6 = 0 →
          wp_X9_odds_b134 m_now Q K79 (fun y0 y1 y2 y3 y4 y5 y6 y7 y8 y9 y10 y11 y12 y13 y14 y15 y16 y17 y18 => wp_X9_odds_h105 m_now Q K79 n y0 y1 y2 y3 y4 y5 y6 y7 y8 y9 y10 y11 y12 y13 y14 y15 y16 y17 y18) (((10 : Int32) - v1).toInt64) v10 v1 v2 v3 v4 v5 v7 v9 v12 m_isKnown m_best m_firstCode m_rivalMany m_certain m_possible m_goods m_setKept m_lastKept m_lastFar)))
def wp_X9_odds_h79 (m_now : Nat → Int32) (Q : Int64 → Int32 → Int32 → Int32 → Int64 → Int32 → Int32 → (Nat → Int32) → Int32 → Int32 → Int32 → Prop) : Nat → Int32 → Int32 → Int32 → Int32 → Int64 → Int64 → Int32 → Int32 → Int32 → Int32 → Int64 → Int32 → Int32 → (Nat → Int32) → Int32 → Int32 → Int32 → Prop
  | 0 => fun _ _ _ _ _ _ _ _ _ _ _ _ _ _ _ _ _ => False
  | n + 1 => fun v1 v2 v3 v4 v5 v7 v9 m_isKnown m_best m_firstCode m_rivalMany m_certain m_possible m_goods m_setKept m_lastKept m_lastFar =>
    (((1 : Int32) <<< (v4 &&& 31)) ≤ v9 →
      ∃ n164, wp_X9_odds_h164 m_now Q  n164 v3 v5 v7 v7 v5 m_isKnown m_best m_firstCode m_rivalMany m_certain m_possible m_goods m_setKept m_lastKept m_lastFar) ∧
    (¬ ((1 : Int32) <<< (v4 &&& 31)) ≤ v9 →
      vp_in v9 1024 ∧
      ((m_goods v9.toNatClampNeg) < v2 →
        wp_X9_odds_b150 m_now Q (fun y0 y1 y2 y3 y4 y5 y6 y7 y8 y9 y10 y11 y12 y13 y14 y15 y16 => wp_X9_odds_h79 m_now Q  n y0 y1 y2 y3 y4 y5 y6 y7 y8 y9 y10 y11 y12 y13 y14 y15 y16) v1 v2 v3 v4 v5 v7 v9 m_isKnown m_best m_firstCode m_rivalMany m_certain m_possible m_goods m_setKept m_lastKept m_lastFar) ∧
      (¬ (m_goods v9.toNatClampNeg) < v2 →
        ∃ n105, wp_X9_odds_h105 m_now Q (fun y0 y1 y2 y3 y4 y5 y6 y7 y8 y9 y10 y11 y12 y13 y14 y15 y16 => wp_X9_odds_h79 m_now Q  n y0 y1 y2 y3 y4 y5 y6 y7 y8 y9 y10 y11 y12 y13 y14 y15 y16) n105 v1 v2 v3 v4 v5 v7 v9 (1 : Int64) (0 : Int32) m_isKnown m_best m_firstCode m_rivalMany m_certain m_possible m_goods m_setKept m_lastKept m_lastFar))
def wp_X9_odds_h52 (m_now : Nat → Int32) (Q : Int64 → Int32 → Int32 → Int32 → Int64 → Int32 → Int32 → (Nat → Int32) → Int32 → Int32 → Int32 → Prop) : Nat → Int32 → Int32 → Int32 → Int32 → Int64 → Int32 → Int32 → Int32 → Int32 → Int64 → Int32 → Int32 → (Nat → Int32) → Int32 → Int32 → Int32 → Prop
  | 0 => fun _ _ _ _ _ _ _ _ _ _ _ _ _ _ _ _ => False
  | n + 1 => fun v1 v2 v3 v4 v5 v7 m_isKnown m_best m_firstCode m_rivalMany m_certain m_possible m_goods m_setKept m_lastKept m_lastFar =>
    (v4 ≤ v7 →
      ∃ n79, wp_X9_odds_h79 m_now Q  n79 v1 v2 v3 v4 v5 (0 : Int64) (0 : Int32) m_isKnown m_best m_firstCode m_rivalMany m_certain m_possible m_goods m_setKept m_lastKept m_lastFar) ∧
    (¬ v4 ≤ v7 →
      ∀ x65_7 : Int64, x65_7 = (v5 * (10 : Int64)) →
      ∀ x67_8 : Int32, x67_8 = v7 + 1 →
      wp_X9_odds_h52 m_now Q  n v1 v2 v3 v4 x65_7 x67_8 m_isKnown m_best m_firstCode m_rivalMany m_certain m_possible m_goods m_setKept m_lastKept m_lastFar)
def wp_X9_odds_b30 (m_now : Nat → Int32) (Q : Int64 → Int32 → Int32 → Int32 → Int64 → Int32 → Int32 → (Nat → Int32) → Int32 → Int32 → Int32 → Prop) (m_isKnown : Int32) (m_best : Int32) (m_firstCode : Int32) (m_rivalMany : Int64) (m_certain : Int32) (m_possible : Int32) (m_goods : Nat → Int32) (m_setKept : Int32) (m_lastKept : Int32) (m_lastFar : Int32) : Prop :=
  Q (-1 : Int64) m_isKnown m_best m_firstCode m_rivalMany m_certain m_possible m_goods m_setKept m_lastKept m_lastFar
def wp_X9_odds (m_now : Nat → Int32) (m_isKnown : Int32) (m_best : Int32) (m_firstCode : Int32) (m_rivalMany : Int64) (m_certain : Int32) (m_possible : Int32) (m_goods : Nat → Int32) (m_setKept : Int32) (m_lastKept : Int32) (m_lastFar : Int32) (p1 : Int32) (p2 : Int32) (p3 : Int32) (Q : Int64 → Int32 → Int32 → Int32 → Int64 → Int32 → Int32 → (Nat → Int32) → Int32 → Int32 → Int32 → Prop) : Prop :=
  wp_X9_in p1 (0 : Int32) (10 : Int32) (fun r4_9 =>
    (r4_9 = 0 →
      wp_X9_odds_b30 m_now Q  m_isKnown m_best m_firstCode m_rivalMany m_certain m_possible m_goods m_setKept m_lastKept m_lastFar) ∧
    (¬ r4_9 = 0 →
      wp_X9_in p2 (0 : Int32) (180 : Int32) (fun r15_10 =>
        (r15_10 = 0 →
          wp_X9_odds_b30 m_now Q  m_isKnown m_best m_firstCode m_rivalMany m_certain m_possible m_goods m_setKept m_lastKept m_lastFar) ∧
        (¬ r15_10 = 0 →
          wp_X9_in p3 (0 : Int32) (1 : Int32) (fun r24_11 =>
            (¬ r24_11 = 0 →
              wp_X9_knows m_now m_isKnown m_best m_firstCode m_rivalMany m_certain m_possible m_goods m_setKept m_lastKept m_lastFar (fun m_isKnown_35_12 m_best_35_13 m_firstCode_35_14 m_rivalMany_35_15 m_certain_35_16 m_possible_35_17 m_goods_35_18 m_setKept_35_19 m_lastKept_35_20 m_lastFar_35_21 =>
                ∀ x44_22 : Int32, x44_22 = (m_now (0 : Int32).toNatClampNeg) →
                ∃ n52, wp_X9_odds_h52 m_now Q  n52 p1 p2 p3 x44_22 (1 : Int64) (0 : Int32) m_isKnown_35_12 m_best_35_13 m_firstCode_35_14 m_rivalMany_35_15 m_certain_35_16 m_possible_35_17 m_goods_35_18 m_setKept_35_19 m_lastKept_35_20 m_lastFar_35_21)) ∧
            (r24_11 = 0 →
              wp_X9_odds_b30 m_now Q  m_isKnown m_best m_firstCode m_rivalMany m_certain m_possible m_goods m_setKept m_lastKept m_lastFar))))))
def wp_X8_keep (h_rate : Int32) (h_wrap : Int32) (e_days : Nat → Int32) (e_firsts : Nat → Int32) (e_seconds : Nat → Int32) (e_size : Int32) (x_kept : Nat → Int32) (ih_rate : Nat → Int32) (ih_wrap : Nat → Int32) (ie_size : Nat → Int32) (ie_days : Nat → Nat → Int32) (ie_firsts : Nat → Nat → Int32) (ie_seconds : Nat → Nat → Int32) (p1 : Int32) (Q : Int32 → (Nat → Int32) → (Nat → Int32) → (Nat → Int32) → (Nat → Int32) → (Nat → Nat → Int32) → (Nat → Nat → Int32) → (Nat → Nat → Int32) → Prop) : Prop :=
  wp_X8_isWithin p1 (0 : Int32) (1 : Int32) (fun r3_1 =>
    (¬ r3_1 = 0 →
      vp_in p1 2 ∧
      wp_X1_copy h_rate h_wrap e_days e_firsts e_seconds e_size (ih_rate p1.toNatClampNeg) (ih_wrap p1.toNatClampNeg) (ie_days p1.toNatClampNeg) (ie_firsts p1.toNatClampNeg) (ie_seconds p1.toNatClampNeg) (ie_size p1.toNatClampNeg) (fun h_rate_21_2 h_wrap_21_3 e_days_21_4 e_firsts_21_5 e_seconds_21_6 e_size_21_7 =>
        vp_in p1 2 ∧
        Q e_size (upd x_kept p1.toNatClampNeg (vp_nar .boolean (1 : Int32))) (va_up ih_rate p1.toNatClampNeg h_rate_21_2) (va_up ih_wrap p1.toNatClampNeg h_wrap_21_3) (va_up ie_size p1.toNatClampNeg e_size_21_7) (va_up ie_days p1.toNatClampNeg e_days_21_4) (va_up ie_firsts p1.toNatClampNeg e_firsts_21_5) (va_up ie_seconds p1.toNatClampNeg e_seconds_21_6))) ∧
    (r3_1 = 0 →
      Q (-1 : Int32) x_kept ih_rate ih_wrap ie_size ie_days ie_firsts ie_seconds))
def wp_X9_keep_h20 (m_now : Nat → Int32) (Q : Int32 → (Nat → Int32) → (Nat → Int32) → Prop) : Nat → Int32 → Int32 → (Nat → Int32) → (Nat → Int32) → Prop
  | 0 => fun _ _ _ _ => False
  | n + 1 => fun v1 v2 m_isKept m_kept =>
    ((33 : Int32) ≤ v2 →
      Q (m_now (0 : Int32).toNatClampNeg) m_isKept m_kept) ∧
    (¬ (33 : Int32) ≤ v2 →
      vp_in v2 33 ∧
      ∀ x42_1 : Int32, x42_1 = (m_now v2.toNatClampNeg) →
      vp_in (((33 : Int32) * v1) + v2) 66 ∧
      ∀ x43_2 : Int32, x43_2 = v2 + 1 →
      wp_X9_keep_h20 m_now Q  n v1 x43_2 m_isKept (upd m_kept (((33 : Int32) * v1) + v2).toNatClampNeg x42_1))
def wp_X9_keep (m_now : Nat → Int32) (m_isKept : Nat → Int32) (m_kept : Nat → Int32) (p1 : Int32) (Q : Int32 → (Nat → Int32) → (Nat → Int32) → Prop) : Prop :=
  wp_X9_in p1 (0 : Int32) (1 : Int32) (fun r3_3 =>
    (¬ r3_3 = 0 →
      vp_in p1 2 ∧
      ∃ n20, wp_X9_keep_h20 m_now Q  n20 p1 (0 : Int32) (upd m_isKept p1.toNatClampNeg (vp_nar .boolean (1 : Int32))) m_kept) ∧
    (r3_3 = 0 →
      Q (-1 : Int32) m_isKept m_kept))
def wp_X8_back (x_kept : Nat → Int32) (ih_rate : Nat → Int32) (ih_wrap : Nat → Int32) (ie_size : Nat → Int32) (ie_days : Nat → Nat → Int32) (ie_firsts : Nat → Nat → Int32) (ie_seconds : Nat → Nat → Int32) (h_rate : Int32) (h_wrap : Int32) (e_days : Nat → Int32) (e_firsts : Nat → Int32) (e_seconds : Nat → Int32) (e_size : Int32) (q_size : Int32) (s_days : Nat → Int32) (s_fars : Nat → Int32) (s_goods : Nat → Int32) (r_until : Nat → Int32) (r_rest : Nat → Int32) (r_ways : Nat → Int64) (r_inEach : Nat → Int32) (r_inAny : Nat → Int32) (r_firsts : Nat → Int32) (r_reasons : Nat → Int32) (r_keptInFirst : Int32) (r_swapAt : Int32) (r_swapGood : Int32) (l_known : Int32) (p1 : Int32) (Q : Int32 → Int32 → Int32 → (Nat → Int32) → (Nat → Int32) → (Nat → Int32) → Int32 → Int32 → (Nat → Int32) → (Nat → Int32) → (Nat → Int32) → (Nat → Int32) → (Nat → Int32) → (Nat → Int64) → (Nat → Int32) → (Nat → Int32) → (Nat → Int32) → (Nat → Int32) → Int32 → Int32 → Int32 → Int32 → Prop) : Prop :=
  wp_X8_isWithin p1 (0 : Int32) (1 : Int32) (fun r3_1 =>
    (¬ r3_1 = 0 →
      vp_in p1 2 ∧
      (¬ (x_kept p1.toNatClampNeg) = 0 →
        vp_in p1 2 ∧
        wp_X1_copy (ih_rate p1.toNatClampNeg) (ih_wrap p1.toNatClampNeg) (ie_days p1.toNatClampNeg) (ie_firsts p1.toNatClampNeg) (ie_seconds p1.toNatClampNeg) (ie_size p1.toNatClampNeg) h_rate h_wrap e_days e_firsts e_seconds e_size (fun h_rate_33_2 h_wrap_33_3 e_days_33_4 e_firsts_33_5 e_seconds_33_6 e_size_33_7 =>
          wp_X3_forget q_size (fun q_size_40_8 =>
            wp_X8_repairAnew h_rate_33_2 h_wrap_33_3 e_days_33_4 e_firsts_33_5 e_seconds_33_6 e_size_33_7 s_days s_fars s_goods r_until r_rest r_ways r_inEach r_inAny r_firsts r_reasons r_keptInFirst r_swapAt r_swapGood l_known (fun s_days_44_9 s_fars_44_10 s_goods_44_11 r_until_44_12 r_rest_44_13 r_ways_44_14 r_inEach_44_15 r_inAny_44_16 r_firsts_44_17 r_reasons_44_18 r_keptInFirst_44_19 r_swapAt_44_20 r_swapGood_44_21 l_known_44_22 =>
              Q e_size_33_7 h_rate_33_2 h_wrap_33_3 e_days_33_4 e_firsts_33_5 e_seconds_33_6 e_size_33_7 q_size_40_8 s_days_44_9 s_fars_44_10 s_goods_44_11 r_until_44_12 r_rest_44_13 r_ways_44_14 r_inEach_44_15 r_inAny_44_16 r_firsts_44_17 r_reasons_44_18 r_keptInFirst_44_19 r_swapAt_44_20 r_swapGood_44_21 l_known_44_22)))) ∧
      ((x_kept p1.toNatClampNeg) = 0 →
        Q (-2 : Int32) h_rate h_wrap e_days e_firsts e_seconds e_size q_size s_days s_fars s_goods r_until r_rest r_ways r_inEach r_inAny r_firsts r_reasons r_keptInFirst r_swapAt r_swapGood l_known)) ∧
    (r3_1 = 0 →
      Q (-1 : Int32) h_rate h_wrap e_days e_firsts e_seconds e_size q_size s_days s_fars s_goods r_until r_rest r_ways r_inEach r_inAny r_firsts r_reasons r_keptInFirst r_swapAt r_swapGood l_known))
def wp_X9_back_h25 (m_isKept : Nat → Int32) (m_kept : Nat → Int32) (Q : Int32 → (Nat → Int32) → Int32 → Int32 → Prop) : Nat → Int32 → Int32 → (Nat → Int32) → Int32 → Int32 → Prop
  | 0 => fun _ _ _ _ _ => False
  | n + 1 => fun v1 v2 m_now m_undoMany m_isKnown =>
    ((33 : Int32) ≤ v2 →
      Q (m_now (0 : Int32).toNatClampNeg) m_now (0 : Int32) (0 : Int32)) ∧
    (¬ (33 : Int32) ≤ v2 →
      vp_in (((33 : Int32) * v1) + v2) 66 ∧
      ∀ x47_1 : Int32, x47_1 = (m_kept (((33 : Int32) * v1) + v2).toNatClampNeg) →
      vp_in v2 33 ∧
      ∀ x48_2 : Int32, x48_2 = v2 + 1 →
      wp_X9_back_h25 m_isKept m_kept Q  n v1 x48_2 (upd m_now v2.toNatClampNeg x47_1) m_undoMany m_isKnown)
def wp_X9_back (m_isKept : Nat → Int32) (m_kept : Nat → Int32) (m_now : Nat → Int32) (m_undoMany : Int32) (m_isKnown : Int32) (p1 : Int32) (Q : Int32 → (Nat → Int32) → Int32 → Int32 → Prop) : Prop :=
  wp_X9_in p1 (0 : Int32) (1 : Int32) (fun r3_3 =>
    (¬ r3_3 = 0 →
      vp_in p1 2 ∧
      (¬ (m_isKept p1.toNatClampNeg) = 0 →
        ∃ n25, wp_X9_back_h25 m_isKept m_kept Q  n25 p1 (0 : Int32) m_now m_undoMany m_isKnown) ∧
      ((m_isKept p1.toNatClampNeg) = 0 →
        Q (-2 : Int32) m_now m_undoMany m_isKnown)) ∧
    (r3_3 = 0 →
      Q (-1 : Int32) m_now m_undoMany m_isKnown))
def wp_X8_count (h_rate : Int32) (h_wrap : Int32) (e_size : Int32) (p_start : Int32) (ce_size : Int32) (t_length : Int32) (p1 : Int32) (Q : Int32 → Prop) : Prop :=
  (p1.toInt < 0 ∨ 5 < p1.toInt →
    Q (-1 : Int32)) ∧
  (p1 = 0 →
    Q e_size) ∧
  (p1 = 1 →
    Q ce_size) ∧
  (p1 = 2 →
    Q h_rate) ∧
  (p1 = 3 →
    Q h_wrap) ∧
  (p1 = 4 →
    Q p_start) ∧
  (p1 = 5 →
    Q t_length)
def wp_X9_count (m_letterMany : Int32) (m_now : Nat → Int32) (m_changeMany : Int32) (m_start : Int32) (p1 : Int32) (Q : Int32 → Prop) : Prop :=
  (p1.toInt < 0 ∨ 5 < p1.toInt →
    Q (-1 : Int32)) ∧
  (p1 = 0 →
    Q (m_now (0 : Int32).toNatClampNeg)) ∧
  (p1 = 1 →
    Q m_changeMany) ∧
  (p1 = 2 →
    Q (m_now (1 : Int32).toNatClampNeg)) ∧
  (p1 = 3 →
    Q (m_now (2 : Int32).toNatClampNeg)) ∧
  (p1 = 4 →
    Q m_start) ∧
  (p1 = 5 →
    Q m_letterMany)
