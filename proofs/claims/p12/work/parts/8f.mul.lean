/-! Point.multiply: the product modulo P. -/
theorem ib_add {x y X Y : Int} (hx : -X ≤ x ∧ x ≤ X) (hy : -Y ≤ y ∧ y ≤ Y) : -(X + Y) ≤ x + y ∧ x + y ≤ X + Y := by omega
theorem ib_w {x X Y : Int} (hx : -X ≤ x ∧ x ≤ X) (h : X ≤ Y) : -Y ≤ x ∧ x ≤ Y := by omega
theorem ib_q {x q X : Int} (hx : -X ≤ x ∧ x ≤ X) (h : q = x / 67108864) : -(X / 67108864 + 1) ≤ q ∧ q ≤ X / 67108864 + 1 := by omega
theorem ib_m {x r : Int} (h : r = x % 67108864) : 0 ≤ r ∧ r < 67108864 := by omega
theorem ib_c {x c : Int} (C : Int) (h : 0 ≤ x ∧ x < 67108864) (hc : c = 67108864 * C) (hC : 0 ≤ C) {k : Int} (hk : 0 ≤ k ∧ k ≤ C) : -c ≤ x * k ∧ x * k ≤ c := by
  have h1 : 0 ≤ x * k := Int.mul_nonneg h.1 hk.1
  have h2 : x * k ≤ 67108864 * C := Int.mul_le_mul (by omega) hk.2 hk.1 (by omega)
  omega
theorem ib_mul {x y A B K : Int} (hx : -A ≤ x ∧ x ≤ A) (hy : -B ≤ y ∧ y ≤ B) (h : A * B ≤ K) : -K ≤ x * y ∧ x * y ≤ K := by
  have hA : 0 ≤ A := by omega
  have hB : 0 ≤ B := by omega
  have e1 : x.natAbs ≤ A.toNat := by omega
  have e2 : y.natAbs ≤ B.toNat := by omega
  have e3 := Nat.mul_le_mul e1 e2
  rw [← Int.natAbs_mul] at e3
  have e4 : ((A.toNat * B.toNat : Nat) : Int) = A * B := by rw [Int.natCast_mul, Int.toNat_of_nonneg hA, Int.toNat_of_nonneg hB]
  have e5 : ((x * y).natAbs : Int) ≤ A * B := by
    rw [← e4]
    exact Int.ofNat_le.mpr e3
  omega
theorem fe_mul (f g : Nat → Int) (p : Nat → Nat → Int) (hp : ∀ i j, f i * g j = p i j) : fe f * fe g = 1 * (p 0 0) + 67108864 * (p 0 1 + p 1 0) + 4503599627370496 * (p 0 2 + p 1 1 + p 2 0) + 302231454903657293676544 * (p 0 3 + p 1 2 + p 2 1 + p 3 0) + 20282409603651670423947251286016 * (p 0 4 + p 1 3 + p 2 2 + p 3 1 + p 4 0) + 1361129467683753853853498429727072845824 * (p 0 5 + p 1 4 + p 2 3 + p 3 2 + p 4 1 + p 5 0) + 91343852333181432387730302044767688728495783936 * (p 0 6 + p 1 5 + p 2 4 + p 3 3 + p 4 2 + p 5 1 + p 6 0) + 6129982163463555433433388108601236734474956488734408704 * (p 0 7 + p 1 6 + p 2 5 + p 3 4 + p 4 3 + p 5 2 + p 6 1 + p 7 0) + 411376139330301510538742295639337626245683966408394965837152256 * (p 0 8 + p 1 7 + p 2 6 + p 3 5 + p 4 4 + p 5 3 + p 6 2 + p 7 1 + p 8 0) + 27606985387162255149739023449108101809804435888681546220650096895197184 * (p 0 9 + p 1 8 + p 2 7 + p 3 6 + p 4 5 + p 5 4 + p 6 3 + p 7 2 + p 8 1 + p 9 0) + 1852673427797059126777135760139006525652319754650249024631321344126610074238976 * (p 1 9 + p 2 8 + p 3 7 + p 4 6 + p 5 5 + p 6 4 + p 7 3 + p 8 2 + p 9 1) + 124330809102446660538845562036705210025114037699336929360115994223289874253133343883264 * (p 2 9 + p 3 8 + p 4 7 + p 5 6 + p 6 5 + p 7 4 + p 8 3 + p 9 2) + 8343699359066055009355553539724812947666814540455674882605631280555545803830627148527195652096 * (p 3 9 + p 4 8 + p 5 7 + p 6 6 + p 7 5 + p 8 4 + p 9 3) + 559936185544451052639360570142111069530411374308662383724997275240947967795040236345219373317901778944 * (p 4 9 + p 5 8 + p 6 7 + p 7 6 + p 8 5 + p 9 4) + 37576681324381331646231689548629392438010920782533117931316655544515344401833735095419183974156299248510959616 * (p 5 9 + p 6 8 + p 7 7 + p 8 6 + p 9 5) + 2521728396569246669585858566409191283525103313309788586748690777871726193375821479130513040312634601011624191379636224 * (p 6 9 + p 7 8 + p 8 7 + p 9 6) + 169230328010303641331690318856389386196071598838855992136870091590247882556495704531248437872567112920983350278405979725889536 * (p 7 9 + p 8 8 + p 9 7) + 11356855067118857664833184498250070849275646260739344691898284362197488876771842551971735167402555711886914400097909030211478150447104 * (p 8 9 + p 9 8) + 762145642166990290864647761179972242614403843424065222377723867096038022172794340849684107193235344521442121855812163792833978437326241529856 * (p 9 9) := by
  unfold fe
  simp only [← hp]
  grind
theorem fe_folds {s0 s1 s2 s3 s4 s5 s6 s7 s8 s9 s10 s11 s12 s13 s14 s15 s16 s17 s18 q10 q11 q12 q13 q14 q15 q16 q17 q18 h0 h1 h2 h3 h4 h5 h6 h7 h8 h9 t0 u0 t1 u1 t2 u2 t3 u3 t4 u4 t5 u5 t6 u6 t7 u7 t8 u8 t9 u9 x60 v0 w0 v1 w1 : Int}
    (e0 : s10 = 67108864 * q10 + h0)
    (e1 : q10 + s11 = 67108864 * q11 + h1)
    (e2 : q11 + s12 = 67108864 * q12 + h2)
    (e3 : q12 + s13 = 67108864 * q13 + h3)
    (e4 : q13 + s14 = 67108864 * q14 + h4)
    (e5 : q14 + s15 = 67108864 * q15 + h5)
    (e6 : q15 + s16 = 67108864 * q16 + h6)
    (e7 : q16 + s17 = 67108864 * q17 + h7)
    (e8 : q17 + s18 = 67108864 * q18 + h8)
    (e9 : h9 = q18)
    (e10 : s0 + h0 * 15632 = 67108864 * u0 + t0)
    (e11 : u0 + s1 + h1 * 15632 + h0 * 1024 = 67108864 * u1 + t1)
    (e12 : u1 + s2 + h2 * 15632 + h1 * 1024 = 67108864 * u2 + t2)
    (e13 : u2 + s3 + h3 * 15632 + h2 * 1024 = 67108864 * u3 + t3)
    (e14 : u3 + s4 + h4 * 15632 + h3 * 1024 = 67108864 * u4 + t4)
    (e15 : u4 + s5 + h5 * 15632 + h4 * 1024 = 67108864 * u5 + t5)
    (e16 : u5 + s6 + h6 * 15632 + h5 * 1024 = 67108864 * u6 + t6)
    (e17 : u6 + s7 + h7 * 15632 + h6 * 1024 = 67108864 * u7 + t7)
    (e18 : u7 + s8 + h8 * 15632 + h7 * 1024 = 67108864 * u8 + t8)
    (e19 : u8 + s9 + h9 * 15632 + h8 * 1024 = 67108864 * u9 + t9)
    (e20 : x60 = u9 + h9 * 1024)
    (e21 : t0 + x60 * 15632 = 67108864 * w0 + v0)
    (e22 : w0 + t1 + x60 * 1024 = 67108864 * w1 + v1)
    : v0 + 67108864 * v1 + 4503599627370496 * (t2 + w1) + 302231454903657293676544 * t3 + 20282409603651670423947251286016 * t4 + 1361129467683753853853498429727072845824 * t5 + 91343852333181432387730302044767688728495783936 * t6 + 6129982163463555433433388108601236734474956488734408704 * t7 + 411376139330301510538742295639337626245683966408394965837152256 * t8 + 27606985387162255149739023449108101809804435888681546220650096895197184 * t9 = 1 * s0 + 67108864 * s1 + 4503599627370496 * s2 + 302231454903657293676544 * s3 + 20282409603651670423947251286016 * s4 + 1361129467683753853853498429727072845824 * s5 + 91343852333181432387730302044767688728495783936 * s6 + 6129982163463555433433388108601236734474956488734408704 * s7 + 411376139330301510538742295639337626245683966408394965837152256 * s8 + 27606985387162255149739023449108101809804435888681546220650096895197184 * s9 + 1852673427797059126777135760139006525652319754650249024631321344126610074238976 * s10 + 124330809102446660538845562036705210025114037699336929360115994223289874253133343883264 * s11 + 8343699359066055009355553539724812947666814540455674882605631280555545803830627148527195652096 * s12 + 559936185544451052639360570142111069530411374308662383724997275240947967795040236345219373317901778944 * s13 + 37576681324381331646231689548629392438010920782533117931316655544515344401833735095419183974156299248510959616 * s14 + 2521728396569246669585858566409191283525103313309788586748690777871726193375821479130513040312634601011624191379636224 * s15 + 169230328010303641331690318856389386196071598838855992136870091590247882556495704531248437872567112920983350278405979725889536 * s16 + 11356855067118857664833184498250070849275646260739344691898284362197488876771842551971735167402555711886914400097909030211478150447104 * s17 + 762145642166990290864647761179972242614403843424065222377723867096038022172794340849684107193235344521442121855812163792833978437326241529856 * s18 - 1852673427797059126777135760139006525652319754650249024631321344126541354746608 * (1 * h0 + 67108864 * h1 + 4503599627370496 * h2 + 302231454903657293676544 * h3 + 20282409603651670423947251286016 * h4 + 1361129467683753853853498429727072845824 * h5 + 91343852333181432387730302044767688728495783936 * h6 + 6129982163463555433433388108601236734474956488734408704 * h7 + 411376139330301510538742295639337626245683966408394965837152256 * h8 + 27606985387162255149739023449108101809804435888681546220650096895197184 * h9 + x60) := by
  omega
theorem mul_e10 {p1_9 p2_8 p3_7 p4_6 p5_5 p6_4 p7_3 p8_2 p9_1 c q2 h : Int} (hc : c = p1_9 + p2_8 + p3_7 + p4_6 + p5_5 + p6_4 + p7_3 + p8_2 + p9_1) (hq : q2 = c / 67108864) (hh : h = c % 67108864) : (p1_9 + p2_8 + p3_7 + p4_6 + p5_5 + p6_4 + p7_3 + p8_2 + p9_1) = 67108864 * q2 + h := by omega
theorem mul_e11 {q p2_9 p3_8 p4_7 p5_6 p6_5 p7_4 p8_3 p9_2 c q2 h : Int} (hc : c = q + p2_9 + p3_8 + p4_7 + p5_6 + p6_5 + p7_4 + p8_3 + p9_2) (hq : q2 = c / 67108864) (hh : h = c % 67108864) : q + (p2_9 + p3_8 + p4_7 + p5_6 + p6_5 + p7_4 + p8_3 + p9_2) = 67108864 * q2 + h := by omega
theorem mul_e12 {q p3_9 p4_8 p5_7 p6_6 p7_5 p8_4 p9_3 c q2 h : Int} (hc : c = q + p3_9 + p4_8 + p5_7 + p6_6 + p7_5 + p8_4 + p9_3) (hq : q2 = c / 67108864) (hh : h = c % 67108864) : q + (p3_9 + p4_8 + p5_7 + p6_6 + p7_5 + p8_4 + p9_3) = 67108864 * q2 + h := by omega
theorem mul_e13 {q p4_9 p5_8 p6_7 p7_6 p8_5 p9_4 c q2 h : Int} (hc : c = q + p4_9 + p5_8 + p6_7 + p7_6 + p8_5 + p9_4) (hq : q2 = c / 67108864) (hh : h = c % 67108864) : q + (p4_9 + p5_8 + p6_7 + p7_6 + p8_5 + p9_4) = 67108864 * q2 + h := by omega
theorem mul_e14 {q p5_9 p6_8 p7_7 p8_6 p9_5 c q2 h : Int} (hc : c = q + p5_9 + p6_8 + p7_7 + p8_6 + p9_5) (hq : q2 = c / 67108864) (hh : h = c % 67108864) : q + (p5_9 + p6_8 + p7_7 + p8_6 + p9_5) = 67108864 * q2 + h := by omega
theorem mul_e15 {q p6_9 p7_8 p8_7 p9_6 c q2 h : Int} (hc : c = q + p6_9 + p7_8 + p8_7 + p9_6) (hq : q2 = c / 67108864) (hh : h = c % 67108864) : q + (p6_9 + p7_8 + p8_7 + p9_6) = 67108864 * q2 + h := by omega
theorem mul_e16 {q p7_9 p8_8 p9_7 c q2 h : Int} (hc : c = q + p7_9 + p8_8 + p9_7) (hq : q2 = c / 67108864) (hh : h = c % 67108864) : q + (p7_9 + p8_8 + p9_7) = 67108864 * q2 + h := by omega
theorem mul_e17 {q p8_9 p9_8 c q2 h : Int} (hc : c = q + p8_9 + p9_8) (hq : q2 = c / 67108864) (hh : h = c % 67108864) : q + (p8_9 + p9_8) = 67108864 * q2 + h := by omega
theorem mul_e18 {q p9_9 c q2 h : Int} (hc : c = q + p9_9) (hq : q2 = c / 67108864) (hh : h = c % 67108864) : q + (p9_9) = 67108864 * q2 + h := by omega
theorem mul_f0 {p0_0 x d q2 h : Int} (hc : d = p0_0 + x * 15632) (hq : q2 = d / 67108864) (hh : h = d % 67108864) : (p0_0) + x * 15632 = 67108864 * q2 + h := by omega
theorem mul_f1 {u y p0_1 p1_0 x d q2 h : Int} (hc : d = u + p0_1 + p1_0 + x * 15632 + y * 1024) (hq : q2 = d / 67108864) (hh : h = d % 67108864) : u + (p0_1 + p1_0) + x * 15632 + y * 1024 = 67108864 * q2 + h := by omega
theorem mul_f2 {u y p0_2 p1_1 p2_0 x d q2 h : Int} (hc : d = u + p0_2 + p1_1 + p2_0 + x * 15632 + y * 1024) (hq : q2 = d / 67108864) (hh : h = d % 67108864) : u + (p0_2 + p1_1 + p2_0) + x * 15632 + y * 1024 = 67108864 * q2 + h := by omega
theorem mul_f3 {u y p0_3 p1_2 p2_1 p3_0 x d q2 h : Int} (hc : d = u + p0_3 + p1_2 + p2_1 + p3_0 + x * 15632 + y * 1024) (hq : q2 = d / 67108864) (hh : h = d % 67108864) : u + (p0_3 + p1_2 + p2_1 + p3_0) + x * 15632 + y * 1024 = 67108864 * q2 + h := by omega
theorem mul_f4 {u y p0_4 p1_3 p2_2 p3_1 p4_0 x d q2 h : Int} (hc : d = u + p0_4 + p1_3 + p2_2 + p3_1 + p4_0 + x * 15632 + y * 1024) (hq : q2 = d / 67108864) (hh : h = d % 67108864) : u + (p0_4 + p1_3 + p2_2 + p3_1 + p4_0) + x * 15632 + y * 1024 = 67108864 * q2 + h := by omega
theorem mul_f5 {u y p0_5 p1_4 p2_3 p3_2 p4_1 p5_0 x d q2 h : Int} (hc : d = u + p0_5 + p1_4 + p2_3 + p3_2 + p4_1 + p5_0 + x * 15632 + y * 1024) (hq : q2 = d / 67108864) (hh : h = d % 67108864) : u + (p0_5 + p1_4 + p2_3 + p3_2 + p4_1 + p5_0) + x * 15632 + y * 1024 = 67108864 * q2 + h := by omega
theorem mul_f6 {u y p0_6 p1_5 p2_4 p3_3 p4_2 p5_1 p6_0 x d q2 h : Int} (hc : d = u + p0_6 + p1_5 + p2_4 + p3_3 + p4_2 + p5_1 + p6_0 + x * 15632 + y * 1024) (hq : q2 = d / 67108864) (hh : h = d % 67108864) : u + (p0_6 + p1_5 + p2_4 + p3_3 + p4_2 + p5_1 + p6_0) + x * 15632 + y * 1024 = 67108864 * q2 + h := by omega
theorem mul_f7 {u y p0_7 p1_6 p2_5 p3_4 p4_3 p5_2 p6_1 p7_0 x d q2 h : Int} (hc : d = u + p0_7 + p1_6 + p2_5 + p3_4 + p4_3 + p5_2 + p6_1 + p7_0 + x * 15632 + y * 1024) (hq : q2 = d / 67108864) (hh : h = d % 67108864) : u + (p0_7 + p1_6 + p2_5 + p3_4 + p4_3 + p5_2 + p6_1 + p7_0) + x * 15632 + y * 1024 = 67108864 * q2 + h := by omega
theorem mul_f8 {u y p0_8 p1_7 p2_6 p3_5 p4_4 p5_3 p6_2 p7_1 p8_0 x d q2 h : Int} (hc : d = u + p0_8 + p1_7 + p2_6 + p3_5 + p4_4 + p5_3 + p6_2 + p7_1 + p8_0 + x * 15632 + y * 1024) (hq : q2 = d / 67108864) (hh : h = d % 67108864) : u + (p0_8 + p1_7 + p2_6 + p3_5 + p4_4 + p5_3 + p6_2 + p7_1 + p8_0) + x * 15632 + y * 1024 = 67108864 * q2 + h := by omega
theorem mul_f9 {u y p0_9 p1_8 p2_7 p3_6 p4_5 p5_4 p6_3 p7_2 p8_1 p9_0 x d q2 h : Int} (hc : d = u + p0_9 + p1_8 + p2_7 + p3_6 + p4_5 + p5_4 + p6_3 + p7_2 + p8_1 + p9_0 + x * 15632 + y * 1024) (hq : q2 = d / 67108864) (hh : h = d % 67108864) : u + (p0_9 + p1_8 + p2_7 + p3_6 + p4_5 + p5_4 + p6_3 + p7_2 + p8_1 + p9_0) + x * 15632 + y * 1024 = 67108864 * q2 + h := by omega
section MUL
variable {Q : Unit → jH → Prop} {a0 a1 a2 : Nat} {H : jH}
def zRb : Int := 205520896
theorem z5_mul {u v : ef} {A B : Int} (k0 : jK H a0 = (103, 10)) (k1 : jK H a1 = (103, 10)) (k2 : jK H a2 = (103, 10)) (ha : zL H a1 u A) (hb : zL H a2 v B) (hAB : A * B ≤ 576460752303423488)
    (hk : ∀ H', jfL (· = a0) H H' → zL H' a0 (u * v) zRb → Q () H') : jT (F_5_multiply a0 a1 a2 H) Q := by
  obtain ⟨f, f1, f2, f3⟩ := ha
  obtain ⟨g, g1, g2, g3⟩ := hb
  obtain ⟨p, hp⟩ : ∃ p : Nat → Nat → Int, ∀ i j, f i * g j = p i j := ⟨_, fun _ _ => rfl⟩
  have pb : ∀ i j, i < 10 → j < 10 → -576460752303423488 ≤ p i j ∧ p i j ≤ 576460752303423488 := fun i j hi hj => by
    rw [← hp]
    exact ib_mul (f2 i hi) (g2 j hj) hAB
  have hval := fe_mul f g p hp
  have e10 : ¬ ((Int32.ofNat 10 : Int32) < (10 : Int32)) := by decide
  unfold F_5_multiply
  rw [k0, k1, k2]
  refine jT_g rfl (jT_neg (by decide) (jT_g rfl (jT_neg (by decide) (jT_g rfl (jT_pos (by decide) ?_)))))
  refine jT_g ⟨rfl, by decide⟩ (jT_lo (e' := Int64.ofInt (f 0)) (f1 0 (by decide)) ?_)
  refine jT_g ⟨rfl, by decide⟩ (jT_lo (e' := Int64.ofInt (f 1)) (f1 1 (by decide)) ?_)
  refine jT_g ⟨rfl, by decide⟩ (jT_lo (e' := Int64.ofInt (f 2)) (f1 2 (by decide)) ?_)
  refine jT_g ⟨rfl, by decide⟩ (jT_lo (e' := Int64.ofInt (f 3)) (f1 3 (by decide)) ?_)
  refine jT_g ⟨rfl, by decide⟩ (jT_lo (e' := Int64.ofInt (f 4)) (f1 4 (by decide)) ?_)
  refine jT_g ⟨rfl, by decide⟩ (jT_lo (e' := Int64.ofInt (f 5)) (f1 5 (by decide)) ?_)
  refine jT_g ⟨rfl, by decide⟩ (jT_lo (e' := Int64.ofInt (f 6)) (f1 6 (by decide)) ?_)
  refine jT_g ⟨rfl, by decide⟩ (jT_lo (e' := Int64.ofInt (f 7)) (f1 7 (by decide)) ?_)
  refine jT_g ⟨rfl, by decide⟩ (jT_lo (e' := Int64.ofInt (f 8)) (f1 8 (by decide)) ?_)
  refine jT_g ⟨rfl, by decide⟩ (jT_lo (e' := Int64.ofInt (f 9)) (f1 9 (by decide)) ?_)
  refine jT_g ⟨rfl, by decide⟩ (jT_lo (e' := Int64.ofInt (g 0)) (g1 0 (by decide)) ?_)
  refine jT_g ⟨rfl, by decide⟩ (jT_lo (e' := Int64.ofInt (g 1)) (g1 1 (by decide)) ?_)
  refine jT_g ⟨rfl, by decide⟩ (jT_lo (e' := Int64.ofInt (g 2)) (g1 2 (by decide)) ?_)
  refine jT_g ⟨rfl, by decide⟩ (jT_lo (e' := Int64.ofInt (g 3)) (g1 3 (by decide)) ?_)
  refine jT_g ⟨rfl, by decide⟩ (jT_lo (e' := Int64.ofInt (g 4)) (g1 4 (by decide)) ?_)
  refine jT_g ⟨rfl, by decide⟩ (jT_lo (e' := Int64.ofInt (g 5)) (g1 5 (by decide)) ?_)
  refine jT_g ⟨rfl, by decide⟩ (jT_lo (e' := Int64.ofInt (g 6)) (g1 6 (by decide)) ?_)
  refine jT_g ⟨rfl, by decide⟩ (jT_lo (e' := Int64.ofInt (g 7)) (g1 7 (by decide)) ?_)
  refine jT_g ⟨rfl, by decide⟩ (jT_lo (e' := Int64.ofInt (g 8)) (g1 8 (by decide)) ?_)
  refine jT_g ⟨rfl, by decide⟩ (jT_lo (e' := Int64.ofInt (g 9)) (g1 9 (by decide)) ?_)
  obtain ⟨c10, hc10⟩ : ∃ c, c = p 1 9 + p 2 8 + p 3 7 + p 4 6 + p 5 5 + p 6 4 + p 7 3 + p 8 2 + p 9 1 := ⟨_, rfl⟩
  have bc10 : -5765170472987656192 ≤ c10 ∧ c10 ≤ 5765170472987656192 := by
    rw [hc10]
    exact ib_w (ib_add (ib_add (ib_add (ib_add (ib_add (ib_add (ib_add (ib_add (pb 1 9 (by decide) (by decide)) (pb 2 8 (by decide) (by decide))) (pb 3 7 (by decide) (by decide))) (pb 4 6 (by decide) (by decide))) (pb 5 5 (by decide) (by decide))) (pb 6 4 (by decide) (by decide))) (pb 7 3 (by decide) (by decide))) (pb 8 2 (by decide) (by decide))) (pb 9 1 (by decide) (by decide))) (by decide)
  obtain ⟨q10, hq10⟩ : ∃ q, q = c10 / 67108864 := ⟨_, rfl⟩
  obtain ⟨h0, hh0⟩ : ∃ h, h = c10 % 67108864 := ⟨_, rfl⟩
  have bq10 := ib_q bc10 hq10
  have bh0 := ib_m hh0
  have sq10 : jshrL (Int64.ofInt c10) 26 = Int64.ofInt q10 := by
    rw [hq10]
    exact li_shr26 (Int.le_trans (by decide) bc10.1) (Int.lt_of_le_of_lt bc10.2 (by decide))
  refine jT_lo (e' := Int64.ofInt c10) (by rw [hc10]; simp only [li_mul, li_add, hp]) (jT_lo (e' := Int64.ofInt h0) (by rw [hh0]; exact li_and26 _) ?_)
  obtain ⟨c11, hc11⟩ : ∃ c, c = q10 + p 2 9 + p 3 8 + p 4 7 + p 5 6 + p 6 5 + p 7 4 + p 8 3 + p 9 2 := ⟨_, rfl⟩
  have bc11 : -5765170472987656192 ≤ c11 ∧ c11 ≤ 5765170472987656192 := by
    rw [hc11]
    exact ib_w (ib_add (ib_add (ib_add (ib_add (ib_add (ib_add (ib_add (ib_add (bq10) (pb 2 9 (by decide) (by decide))) (pb 3 8 (by decide) (by decide))) (pb 4 7 (by decide) (by decide))) (pb 5 6 (by decide) (by decide))) (pb 6 5 (by decide) (by decide))) (pb 7 4 (by decide) (by decide))) (pb 8 3 (by decide) (by decide))) (pb 9 2 (by decide) (by decide))) (by decide)
  obtain ⟨q11, hq11⟩ : ∃ q, q = c11 / 67108864 := ⟨_, rfl⟩
  obtain ⟨h1, hh1⟩ : ∃ h, h = c11 % 67108864 := ⟨_, rfl⟩
  have bq11 := ib_q bc11 hq11
  have bh1 := ib_m hh1
  have sq11 : jshrL (Int64.ofInt c11) 26 = Int64.ofInt q11 := by
    rw [hq11]
    exact li_shr26 (Int.le_trans (by decide) bc11.1) (Int.lt_of_le_of_lt bc11.2 (by decide))
  refine jT_lo (e' := Int64.ofInt c11) (by rw [sq10, hc11]; simp only [li_mul, li_add, hp]) (jT_lo (e' := Int64.ofInt h1) (by rw [hh1]; exact li_and26 _) ?_)
  obtain ⟨c12, hc12⟩ : ∃ c, c = q11 + p 3 9 + p 4 8 + p 5 7 + p 6 6 + p 7 5 + p 8 4 + p 9 3 := ⟨_, rfl⟩
  have bc12 : -5765170472987656192 ≤ c12 ∧ c12 ≤ 5765170472987656192 := by
    rw [hc12]
    exact ib_w (ib_add (ib_add (ib_add (ib_add (ib_add (ib_add (ib_add (bq11) (pb 3 9 (by decide) (by decide))) (pb 4 8 (by decide) (by decide))) (pb 5 7 (by decide) (by decide))) (pb 6 6 (by decide) (by decide))) (pb 7 5 (by decide) (by decide))) (pb 8 4 (by decide) (by decide))) (pb 9 3 (by decide) (by decide))) (by decide)
  obtain ⟨q12, hq12⟩ : ∃ q, q = c12 / 67108864 := ⟨_, rfl⟩
  obtain ⟨h2, hh2⟩ : ∃ h, h = c12 % 67108864 := ⟨_, rfl⟩
  have bq12 := ib_q bc12 hq12
  have bh2 := ib_m hh2
  have sq12 : jshrL (Int64.ofInt c12) 26 = Int64.ofInt q12 := by
    rw [hq12]
    exact li_shr26 (Int.le_trans (by decide) bc12.1) (Int.lt_of_le_of_lt bc12.2 (by decide))
  refine jT_lo (e' := Int64.ofInt c12) (by rw [sq11, hc12]; simp only [li_mul, li_add, hp]) (jT_lo (e' := Int64.ofInt h2) (by rw [hh2]; exact li_and26 _) ?_)
  obtain ⟨c13, hc13⟩ : ∃ c, c = q12 + p 4 9 + p 5 8 + p 6 7 + p 7 6 + p 8 5 + p 9 4 := ⟨_, rfl⟩
  have bc13 : -5765170472987656192 ≤ c13 ∧ c13 ≤ 5765170472987656192 := by
    rw [hc13]
    exact ib_w (ib_add (ib_add (ib_add (ib_add (ib_add (ib_add (bq12) (pb 4 9 (by decide) (by decide))) (pb 5 8 (by decide) (by decide))) (pb 6 7 (by decide) (by decide))) (pb 7 6 (by decide) (by decide))) (pb 8 5 (by decide) (by decide))) (pb 9 4 (by decide) (by decide))) (by decide)
  obtain ⟨q13, hq13⟩ : ∃ q, q = c13 / 67108864 := ⟨_, rfl⟩
  obtain ⟨h3, hh3⟩ : ∃ h, h = c13 % 67108864 := ⟨_, rfl⟩
  have bq13 := ib_q bc13 hq13
  have bh3 := ib_m hh3
  have sq13 : jshrL (Int64.ofInt c13) 26 = Int64.ofInt q13 := by
    rw [hq13]
    exact li_shr26 (Int.le_trans (by decide) bc13.1) (Int.lt_of_le_of_lt bc13.2 (by decide))
  refine jT_lo (e' := Int64.ofInt c13) (by rw [sq12, hc13]; simp only [li_mul, li_add, hp]) (jT_lo (e' := Int64.ofInt h3) (by rw [hh3]; exact li_and26 _) ?_)
  obtain ⟨c14, hc14⟩ : ∃ c, c = q13 + p 5 9 + p 6 8 + p 7 7 + p 8 6 + p 9 5 := ⟨_, rfl⟩
  have bc14 : -5765170472987656192 ≤ c14 ∧ c14 ≤ 5765170472987656192 := by
    rw [hc14]
    exact ib_w (ib_add (ib_add (ib_add (ib_add (ib_add (bq13) (pb 5 9 (by decide) (by decide))) (pb 6 8 (by decide) (by decide))) (pb 7 7 (by decide) (by decide))) (pb 8 6 (by decide) (by decide))) (pb 9 5 (by decide) (by decide))) (by decide)
  obtain ⟨q14, hq14⟩ : ∃ q, q = c14 / 67108864 := ⟨_, rfl⟩
  obtain ⟨h4, hh4⟩ : ∃ h, h = c14 % 67108864 := ⟨_, rfl⟩
  have bq14 := ib_q bc14 hq14
  have bh4 := ib_m hh4
  have sq14 : jshrL (Int64.ofInt c14) 26 = Int64.ofInt q14 := by
    rw [hq14]
    exact li_shr26 (Int.le_trans (by decide) bc14.1) (Int.lt_of_le_of_lt bc14.2 (by decide))
  refine jT_lo (e' := Int64.ofInt c14) (by rw [sq13, hc14]; simp only [li_mul, li_add, hp]) (jT_lo (e' := Int64.ofInt h4) (by rw [hh4]; exact li_and26 _) ?_)
  obtain ⟨c15, hc15⟩ : ∃ c, c = q14 + p 6 9 + p 7 8 + p 8 7 + p 9 6 := ⟨_, rfl⟩
  have bc15 : -5765170472987656192 ≤ c15 ∧ c15 ≤ 5765170472987656192 := by
    rw [hc15]
    exact ib_w (ib_add (ib_add (ib_add (ib_add (bq14) (pb 6 9 (by decide) (by decide))) (pb 7 8 (by decide) (by decide))) (pb 8 7 (by decide) (by decide))) (pb 9 6 (by decide) (by decide))) (by decide)
  obtain ⟨q15, hq15⟩ : ∃ q, q = c15 / 67108864 := ⟨_, rfl⟩
  obtain ⟨h5, hh5⟩ : ∃ h, h = c15 % 67108864 := ⟨_, rfl⟩
  have bq15 := ib_q bc15 hq15
  have bh5 := ib_m hh5
  have sq15 : jshrL (Int64.ofInt c15) 26 = Int64.ofInt q15 := by
    rw [hq15]
    exact li_shr26 (Int.le_trans (by decide) bc15.1) (Int.lt_of_le_of_lt bc15.2 (by decide))
  refine jT_lo (e' := Int64.ofInt c15) (by rw [sq14, hc15]; simp only [li_mul, li_add, hp]) (jT_lo (e' := Int64.ofInt h5) (by rw [hh5]; exact li_and26 _) ?_)
  obtain ⟨c16, hc16⟩ : ∃ c, c = q15 + p 7 9 + p 8 8 + p 9 7 := ⟨_, rfl⟩
  have bc16 : -5765170472987656192 ≤ c16 ∧ c16 ≤ 5765170472987656192 := by
    rw [hc16]
    exact ib_w (ib_add (ib_add (ib_add (bq15) (pb 7 9 (by decide) (by decide))) (pb 8 8 (by decide) (by decide))) (pb 9 7 (by decide) (by decide))) (by decide)
  obtain ⟨q16, hq16⟩ : ∃ q, q = c16 / 67108864 := ⟨_, rfl⟩
  obtain ⟨h6, hh6⟩ : ∃ h, h = c16 % 67108864 := ⟨_, rfl⟩
  have bq16 := ib_q bc16 hq16
  have bh6 := ib_m hh6
  have sq16 : jshrL (Int64.ofInt c16) 26 = Int64.ofInt q16 := by
    rw [hq16]
    exact li_shr26 (Int.le_trans (by decide) bc16.1) (Int.lt_of_le_of_lt bc16.2 (by decide))
  refine jT_lo (e' := Int64.ofInt c16) (by rw [sq15, hc16]; simp only [li_mul, li_add, hp]) (jT_lo (e' := Int64.ofInt h6) (by rw [hh6]; exact li_and26 _) ?_)
  obtain ⟨c17, hc17⟩ : ∃ c, c = q16 + p 8 9 + p 9 8 := ⟨_, rfl⟩
  have bc17 : -5765170472987656192 ≤ c17 ∧ c17 ≤ 5765170472987656192 := by
    rw [hc17]
    exact ib_w (ib_add (ib_add (bq16) (pb 8 9 (by decide) (by decide))) (pb 9 8 (by decide) (by decide))) (by decide)
  obtain ⟨q17, hq17⟩ : ∃ q, q = c17 / 67108864 := ⟨_, rfl⟩
  obtain ⟨h7, hh7⟩ : ∃ h, h = c17 % 67108864 := ⟨_, rfl⟩
  have bq17 := ib_q bc17 hq17
  have bh7 := ib_m hh7
  have sq17 : jshrL (Int64.ofInt c17) 26 = Int64.ofInt q17 := by
    rw [hq17]
    exact li_shr26 (Int.le_trans (by decide) bc17.1) (Int.lt_of_le_of_lt bc17.2 (by decide))
  refine jT_lo (e' := Int64.ofInt c17) (by rw [sq16, hc17]; simp only [li_mul, li_add, hp]) (jT_lo (e' := Int64.ofInt h7) (by rw [hh7]; exact li_and26 _) ?_)
  obtain ⟨c18, hc18⟩ : ∃ c, c = q17 + p 9 9 := ⟨_, rfl⟩
  have bc18 : -576461851815051264 ≤ c18 ∧ c18 ≤ 576461851815051264 := by
    rw [hc18]
    exact ib_w (ib_add (bq17) (pb 9 9 (by decide) (by decide))) (by decide)
  obtain ⟨q18, hq18⟩ : ∃ q, q = c18 / 67108864 := ⟨_, rfl⟩
  obtain ⟨h8, hh8⟩ : ∃ h, h = c18 % 67108864 := ⟨_, rfl⟩
  have bq18 := ib_q bc18 hq18
  have bh8 := ib_m hh8
  have sq18 : jshrL (Int64.ofInt c18) 26 = Int64.ofInt q18 := by
    rw [hq18]
    exact li_shr26 (Int.le_trans (by decide) bc18.1) (Int.lt_of_le_of_lt bc18.2 (by decide))
  refine jT_lo (e' := Int64.ofInt c18) (by rw [sq17, hc18]; simp only [li_mul, li_add, hp]) (jT_lo (e' := Int64.ofInt h8) (by rw [hh8]; exact li_and26 _) ?_)
  refine jT_lo (e' := Int64.ofInt q18) sq18 ?_
  have z0 := zg_any H a0
  generalize (fun i => (jL H a0 i).toInt) = G at z0
  have fr0 : jfL (· = a0) H H := jfL_refl
  obtain ⟨d0, hd0⟩ : ∃ c, c = p 0 0 + h0 * 15632 := ⟨_, rfl⟩
  have bd0 : -5765170472987656192 ≤ d0 ∧ d0 ≤ 5765170472987656192 := by
    rw [hd0]
    exact ib_w (ib_add (pb 0 0 (by decide) (by decide)) (ib_c 15632 bh0 rfl (by decide) ⟨by decide, by decide⟩)) (by decide)
  obtain ⟨u0, hu0⟩ : ∃ q, q = d0 / 67108864 := ⟨_, rfl⟩
  obtain ⟨t0, ht0⟩ : ∃ h, h = d0 % 67108864 := ⟨_, rfl⟩
  have bu0 := ib_q bd0 hu0
  have bm0 := ib_m ht0
  have su0 : jshrL (Int64.ofInt d0) 26 = Int64.ofInt u0 := by
    rw [hu0]
    exact li_shr26 (Int.le_trans (by decide) bd0.1) (Int.lt_of_le_of_lt bd0.2 (by decide))
  refine jT_lo (e' := Int64.ofInt d0) (by rw [hd0, show (15632 : Int64) = Int64.ofInt 15632 from rfl]; simp only [li_mul, li_add, hp]) ?_
  refine jT_g ⟨rfl, by decide⟩ (jT_w fr0 rfl z0 (i := 0) (v := t0) rfl (by rw [ht0]; exact li_and26 _) fun H1 fr1 z1 => ?_)
  have kk1 : jK H1 a0 = (103, 10) := by rw [fr1.1, k0]
  obtain ⟨d1, hd1⟩ : ∃ c, c = u0 + p 0 1 + p 1 0 + h1 * 15632 + h0 * 1024 := ⟨_, rfl⟩
  have bd1 : -5765170472987656192 ≤ d1 ∧ d1 ≤ 5765170472987656192 := by
    rw [hd1]
    exact ib_w (ib_add (ib_add (ib_add (ib_add (bu0) (pb 0 1 (by decide) (by decide))) (pb 1 0 (by decide) (by decide))) (ib_c 15632 bh1 rfl (by decide) ⟨by decide, by decide⟩)) (ib_c 1024 bh0 rfl (by decide) ⟨by decide, by decide⟩)) (by decide)
  obtain ⟨u1, hu1⟩ : ∃ q, q = d1 / 67108864 := ⟨_, rfl⟩
  obtain ⟨t1, ht1⟩ : ∃ h, h = d1 % 67108864 := ⟨_, rfl⟩
  have bu1 := ib_q bd1 hu1
  have bm1 := ib_m ht1
  have su1 : jshrL (Int64.ofInt d1) 26 = Int64.ofInt u1 := by
    rw [hu1]
    exact li_shr26 (Int.le_trans (by decide) bd1.1) (Int.lt_of_le_of_lt bd1.2 (by decide))
  refine jT_lo (e' := Int64.ofInt d1) (by rw [su0, hd1, show (15632 : Int64) = Int64.ofInt 15632 from rfl, show (1024 : Int64) = Int64.ofInt 1024 from rfl]; simp only [li_mul, li_add, hp]) ?_
  refine jT_g (gL kk1 (by decide)) (jT_w fr1 rfl z1 (i := 1) (v := t1) rfl (by rw [ht1]; exact li_and26 _) fun H2 fr2 z2 => ?_)
  have kk2 : jK H2 a0 = (103, 10) := by rw [fr2.1, k0]
  obtain ⟨d2, hd2⟩ : ∃ c, c = u1 + p 0 2 + p 1 1 + p 2 0 + h2 * 15632 + h1 * 1024 := ⟨_, rfl⟩
  have bd2 : -5765170472987656192 ≤ d2 ∧ d2 ≤ 5765170472987656192 := by
    rw [hd2]
    exact ib_w (ib_add (ib_add (ib_add (ib_add (ib_add (bu1) (pb 0 2 (by decide) (by decide))) (pb 1 1 (by decide) (by decide))) (pb 2 0 (by decide) (by decide))) (ib_c 15632 bh2 rfl (by decide) ⟨by decide, by decide⟩)) (ib_c 1024 bh1 rfl (by decide) ⟨by decide, by decide⟩)) (by decide)
  obtain ⟨u2, hu2⟩ : ∃ q, q = d2 / 67108864 := ⟨_, rfl⟩
  obtain ⟨t2, ht2⟩ : ∃ h, h = d2 % 67108864 := ⟨_, rfl⟩
  have bu2 := ib_q bd2 hu2
  have bm2 := ib_m ht2
  have su2 : jshrL (Int64.ofInt d2) 26 = Int64.ofInt u2 := by
    rw [hu2]
    exact li_shr26 (Int.le_trans (by decide) bd2.1) (Int.lt_of_le_of_lt bd2.2 (by decide))
  refine jT_lo (e' := Int64.ofInt d2) (by rw [su1, hd2, show (15632 : Int64) = Int64.ofInt 15632 from rfl, show (1024 : Int64) = Int64.ofInt 1024 from rfl]; simp only [li_mul, li_add, hp]) ?_
  refine jT_g (gL kk2 (by decide)) (jT_w fr2 rfl z2 (i := 2) (v := t2) rfl (by rw [ht2]; exact li_and26 _) fun H3 fr3 z3 => ?_)
  have kk3 : jK H3 a0 = (103, 10) := by rw [fr3.1, k0]
  obtain ⟨d3, hd3⟩ : ∃ c, c = u2 + p 0 3 + p 1 2 + p 2 1 + p 3 0 + h3 * 15632 + h2 * 1024 := ⟨_, rfl⟩
  have bd3 : -5765170472987656192 ≤ d3 ∧ d3 ≤ 5765170472987656192 := by
    rw [hd3]
    exact ib_w (ib_add (ib_add (ib_add (ib_add (ib_add (ib_add (bu2) (pb 0 3 (by decide) (by decide))) (pb 1 2 (by decide) (by decide))) (pb 2 1 (by decide) (by decide))) (pb 3 0 (by decide) (by decide))) (ib_c 15632 bh3 rfl (by decide) ⟨by decide, by decide⟩)) (ib_c 1024 bh2 rfl (by decide) ⟨by decide, by decide⟩)) (by decide)
  obtain ⟨u3, hu3⟩ : ∃ q, q = d3 / 67108864 := ⟨_, rfl⟩
  obtain ⟨t3, ht3⟩ : ∃ h, h = d3 % 67108864 := ⟨_, rfl⟩
  have bu3 := ib_q bd3 hu3
  have bm3 := ib_m ht3
  have su3 : jshrL (Int64.ofInt d3) 26 = Int64.ofInt u3 := by
    rw [hu3]
    exact li_shr26 (Int.le_trans (by decide) bd3.1) (Int.lt_of_le_of_lt bd3.2 (by decide))
  refine jT_lo (e' := Int64.ofInt d3) (by rw [su2, hd3, show (15632 : Int64) = Int64.ofInt 15632 from rfl, show (1024 : Int64) = Int64.ofInt 1024 from rfl]; simp only [li_mul, li_add, hp]) ?_
  refine jT_g (gL kk3 (by decide)) (jT_w fr3 rfl z3 (i := 3) (v := t3) rfl (by rw [ht3]; exact li_and26 _) fun H4 fr4 z4 => ?_)
  have kk4 : jK H4 a0 = (103, 10) := by rw [fr4.1, k0]
  obtain ⟨d4, hd4⟩ : ∃ c, c = u3 + p 0 4 + p 1 3 + p 2 2 + p 3 1 + p 4 0 + h4 * 15632 + h3 * 1024 := ⟨_, rfl⟩
  have bd4 : -5765170472987656192 ≤ d4 ∧ d4 ≤ 5765170472987656192 := by
    rw [hd4]
    exact ib_w (ib_add (ib_add (ib_add (ib_add (ib_add (ib_add (ib_add (bu3) (pb 0 4 (by decide) (by decide))) (pb 1 3 (by decide) (by decide))) (pb 2 2 (by decide) (by decide))) (pb 3 1 (by decide) (by decide))) (pb 4 0 (by decide) (by decide))) (ib_c 15632 bh4 rfl (by decide) ⟨by decide, by decide⟩)) (ib_c 1024 bh3 rfl (by decide) ⟨by decide, by decide⟩)) (by decide)
  obtain ⟨u4, hu4⟩ : ∃ q, q = d4 / 67108864 := ⟨_, rfl⟩
  obtain ⟨t4, ht4⟩ : ∃ h, h = d4 % 67108864 := ⟨_, rfl⟩
  have bu4 := ib_q bd4 hu4
  have bm4 := ib_m ht4
  have su4 : jshrL (Int64.ofInt d4) 26 = Int64.ofInt u4 := by
    rw [hu4]
    exact li_shr26 (Int.le_trans (by decide) bd4.1) (Int.lt_of_le_of_lt bd4.2 (by decide))
  refine jT_lo (e' := Int64.ofInt d4) (by rw [su3, hd4, show (15632 : Int64) = Int64.ofInt 15632 from rfl, show (1024 : Int64) = Int64.ofInt 1024 from rfl]; simp only [li_mul, li_add, hp]) ?_
  refine jT_g (gL kk4 (by decide)) (jT_w fr4 rfl z4 (i := 4) (v := t4) rfl (by rw [ht4]; exact li_and26 _) fun H5 fr5 z5 => ?_)
  have kk5 : jK H5 a0 = (103, 10) := by rw [fr5.1, k0]
  obtain ⟨d5, hd5⟩ : ∃ c, c = u4 + p 0 5 + p 1 4 + p 2 3 + p 3 2 + p 4 1 + p 5 0 + h5 * 15632 + h4 * 1024 := ⟨_, rfl⟩
  have bd5 : -5765170472987656192 ≤ d5 ∧ d5 ≤ 5765170472987656192 := by
    rw [hd5]
    exact ib_w (ib_add (ib_add (ib_add (ib_add (ib_add (ib_add (ib_add (ib_add (bu4) (pb 0 5 (by decide) (by decide))) (pb 1 4 (by decide) (by decide))) (pb 2 3 (by decide) (by decide))) (pb 3 2 (by decide) (by decide))) (pb 4 1 (by decide) (by decide))) (pb 5 0 (by decide) (by decide))) (ib_c 15632 bh5 rfl (by decide) ⟨by decide, by decide⟩)) (ib_c 1024 bh4 rfl (by decide) ⟨by decide, by decide⟩)) (by decide)
  obtain ⟨u5, hu5⟩ : ∃ q, q = d5 / 67108864 := ⟨_, rfl⟩
  obtain ⟨t5, ht5⟩ : ∃ h, h = d5 % 67108864 := ⟨_, rfl⟩
  have bu5 := ib_q bd5 hu5
  have bm5 := ib_m ht5
  have su5 : jshrL (Int64.ofInt d5) 26 = Int64.ofInt u5 := by
    rw [hu5]
    exact li_shr26 (Int.le_trans (by decide) bd5.1) (Int.lt_of_le_of_lt bd5.2 (by decide))
  refine jT_lo (e' := Int64.ofInt d5) (by rw [su4, hd5, show (15632 : Int64) = Int64.ofInt 15632 from rfl, show (1024 : Int64) = Int64.ofInt 1024 from rfl]; simp only [li_mul, li_add, hp]) ?_
  refine jT_g (gL kk5 (by decide)) (jT_w fr5 rfl z5 (i := 5) (v := t5) rfl (by rw [ht5]; exact li_and26 _) fun H6 fr6 z6 => ?_)
  have kk6 : jK H6 a0 = (103, 10) := by rw [fr6.1, k0]
  obtain ⟨d6, hd6⟩ : ∃ c, c = u5 + p 0 6 + p 1 5 + p 2 4 + p 3 3 + p 4 2 + p 5 1 + p 6 0 + h6 * 15632 + h5 * 1024 := ⟨_, rfl⟩
  have bd6 : -5765170472987656192 ≤ d6 ∧ d6 ≤ 5765170472987656192 := by
    rw [hd6]
    exact ib_w (ib_add (ib_add (ib_add (ib_add (ib_add (ib_add (ib_add (ib_add (ib_add (bu5) (pb 0 6 (by decide) (by decide))) (pb 1 5 (by decide) (by decide))) (pb 2 4 (by decide) (by decide))) (pb 3 3 (by decide) (by decide))) (pb 4 2 (by decide) (by decide))) (pb 5 1 (by decide) (by decide))) (pb 6 0 (by decide) (by decide))) (ib_c 15632 bh6 rfl (by decide) ⟨by decide, by decide⟩)) (ib_c 1024 bh5 rfl (by decide) ⟨by decide, by decide⟩)) (by decide)
  obtain ⟨u6, hu6⟩ : ∃ q, q = d6 / 67108864 := ⟨_, rfl⟩
  obtain ⟨t6, ht6⟩ : ∃ h, h = d6 % 67108864 := ⟨_, rfl⟩
  have bu6 := ib_q bd6 hu6
  have bm6 := ib_m ht6
  have su6 : jshrL (Int64.ofInt d6) 26 = Int64.ofInt u6 := by
    rw [hu6]
    exact li_shr26 (Int.le_trans (by decide) bd6.1) (Int.lt_of_le_of_lt bd6.2 (by decide))
  refine jT_lo (e' := Int64.ofInt d6) (by rw [su5, hd6, show (15632 : Int64) = Int64.ofInt 15632 from rfl, show (1024 : Int64) = Int64.ofInt 1024 from rfl]; simp only [li_mul, li_add, hp]) ?_
  refine jT_g (gL kk6 (by decide)) (jT_w fr6 rfl z6 (i := 6) (v := t6) rfl (by rw [ht6]; exact li_and26 _) fun H7 fr7 z7 => ?_)
  have kk7 : jK H7 a0 = (103, 10) := by rw [fr7.1, k0]
  obtain ⟨d7, hd7⟩ : ∃ c, c = u6 + p 0 7 + p 1 6 + p 2 5 + p 3 4 + p 4 3 + p 5 2 + p 6 1 + p 7 0 + h7 * 15632 + h6 * 1024 := ⟨_, rfl⟩
  have bd7 : -5765170472987656192 ≤ d7 ∧ d7 ≤ 5765170472987656192 := by
    rw [hd7]
    exact ib_w (ib_add (ib_add (ib_add (ib_add (ib_add (ib_add (ib_add (ib_add (ib_add (ib_add (bu6) (pb 0 7 (by decide) (by decide))) (pb 1 6 (by decide) (by decide))) (pb 2 5 (by decide) (by decide))) (pb 3 4 (by decide) (by decide))) (pb 4 3 (by decide) (by decide))) (pb 5 2 (by decide) (by decide))) (pb 6 1 (by decide) (by decide))) (pb 7 0 (by decide) (by decide))) (ib_c 15632 bh7 rfl (by decide) ⟨by decide, by decide⟩)) (ib_c 1024 bh6 rfl (by decide) ⟨by decide, by decide⟩)) (by decide)
  obtain ⟨u7, hu7⟩ : ∃ q, q = d7 / 67108864 := ⟨_, rfl⟩
  obtain ⟨t7, ht7⟩ : ∃ h, h = d7 % 67108864 := ⟨_, rfl⟩
  have bu7 := ib_q bd7 hu7
  have bm7 := ib_m ht7
  have su7 : jshrL (Int64.ofInt d7) 26 = Int64.ofInt u7 := by
    rw [hu7]
    exact li_shr26 (Int.le_trans (by decide) bd7.1) (Int.lt_of_le_of_lt bd7.2 (by decide))
  refine jT_lo (e' := Int64.ofInt d7) (by rw [su6, hd7, show (15632 : Int64) = Int64.ofInt 15632 from rfl, show (1024 : Int64) = Int64.ofInt 1024 from rfl]; simp only [li_mul, li_add, hp]) ?_
  refine jT_g (gL kk7 (by decide)) (jT_w fr7 rfl z7 (i := 7) (v := t7) rfl (by rw [ht7]; exact li_and26 _) fun H8 fr8 z8 => ?_)
  have kk8 : jK H8 a0 = (103, 10) := by rw [fr8.1, k0]
  obtain ⟨d8, hd8⟩ : ∃ c, c = u7 + p 0 8 + p 1 7 + p 2 6 + p 3 5 + p 4 4 + p 5 3 + p 6 2 + p 7 1 + p 8 0 + h8 * 15632 + h7 * 1024 := ⟨_, rfl⟩
  have bd8 : -5765170472987656192 ≤ d8 ∧ d8 ≤ 5765170472987656192 := by
    rw [hd8]
    exact ib_w (ib_add (ib_add (ib_add (ib_add (ib_add (ib_add (ib_add (ib_add (ib_add (ib_add (ib_add (bu7) (pb 0 8 (by decide) (by decide))) (pb 1 7 (by decide) (by decide))) (pb 2 6 (by decide) (by decide))) (pb 3 5 (by decide) (by decide))) (pb 4 4 (by decide) (by decide))) (pb 5 3 (by decide) (by decide))) (pb 6 2 (by decide) (by decide))) (pb 7 1 (by decide) (by decide))) (pb 8 0 (by decide) (by decide))) (ib_c 15632 bh8 rfl (by decide) ⟨by decide, by decide⟩)) (ib_c 1024 bh7 rfl (by decide) ⟨by decide, by decide⟩)) (by decide)
  obtain ⟨u8, hu8⟩ : ∃ q, q = d8 / 67108864 := ⟨_, rfl⟩
  obtain ⟨t8, ht8⟩ : ∃ h, h = d8 % 67108864 := ⟨_, rfl⟩
  have bu8 := ib_q bd8 hu8
  have bm8 := ib_m ht8
  have su8 : jshrL (Int64.ofInt d8) 26 = Int64.ofInt u8 := by
    rw [hu8]
    exact li_shr26 (Int.le_trans (by decide) bd8.1) (Int.lt_of_le_of_lt bd8.2 (by decide))
  refine jT_lo (e' := Int64.ofInt d8) (by rw [su7, hd8, show (15632 : Int64) = Int64.ofInt 15632 from rfl, show (1024 : Int64) = Int64.ofInt 1024 from rfl]; simp only [li_mul, li_add, hp]) ?_
  refine jT_g (gL kk8 (by decide)) (jT_w fr8 rfl z8 (i := 8) (v := t8) rfl (by rw [ht8]; exact li_and26 _) fun H9 fr9 z9 => ?_)
  have kk9 : jK H9 a0 = (103, 10) := by rw [fr9.1, k0]
  have bt9 : -(134217728 * 15632 * 128) ≤ q18 * 15632 ∧ q18 * 15632 ≤ 134217728 * 15632 * 128 := by
    have := bq18
    clear hval hc10 hc11 hc12 hc13 hc14 hc15 hc16 hc17 hc18
    omega
  obtain ⟨d9, hd9⟩ : ∃ c, c = u8 + p 0 9 + p 1 8 + p 2 7 + p 3 6 + p 4 5 + p 5 4 + p 6 3 + p 7 2 + p 8 1 + p 9 0 + q18 * 15632 + h8 * 1024 := ⟨_, rfl⟩
  have bd9 : -5765170472987656192 ≤ d9 ∧ d9 ≤ 5765170472987656192 := by
    rw [hd9]
    exact ib_w (ib_add (ib_add (ib_add (ib_add (ib_add (ib_add (ib_add (ib_add (ib_add (ib_add (ib_add (ib_add (bu8) (pb 0 9 (by decide) (by decide))) (pb 1 8 (by decide) (by decide))) (pb 2 7 (by decide) (by decide))) (pb 3 6 (by decide) (by decide))) (pb 4 5 (by decide) (by decide))) (pb 5 4 (by decide) (by decide))) (pb 6 3 (by decide) (by decide))) (pb 7 2 (by decide) (by decide))) (pb 8 1 (by decide) (by decide))) (pb 9 0 (by decide) (by decide))) (bt9)) (ib_c 1024 bh8 rfl (by decide) ⟨by decide, by decide⟩)) (by decide)
  obtain ⟨u9, hu9⟩ : ∃ q, q = d9 / 67108864 := ⟨_, rfl⟩
  obtain ⟨t9, ht9⟩ : ∃ h, h = d9 % 67108864 := ⟨_, rfl⟩
  have bu9 := ib_q bd9 hu9
  have bm9 := ib_m ht9
  have su9 : jshrL (Int64.ofInt d9) 26 = Int64.ofInt u9 := by
    rw [hu9]
    exact li_shr26 (Int.le_trans (by decide) bd9.1) (Int.lt_of_le_of_lt bd9.2 (by decide))
  refine jT_lo (e' := Int64.ofInt d9) (by rw [su8, hd9, show (15632 : Int64) = Int64.ofInt 15632 from rfl, show (1024 : Int64) = Int64.ofInt 1024 from rfl]; simp only [li_mul, li_add, hp]) ?_
  refine jT_g (gL kk9 (by decide)) (jT_w fr9 rfl z9 (i := 9) (v := t9) rfl (by rw [ht9]; exact li_and26 _) fun H10 fr10 z10 => ?_)
  have kk10 : jK H10 a0 = (103, 10) := by rw [fr10.1, k0]
  obtain ⟨x60, hx60⟩ : ∃ c, c = u9 + q18 * 1024 := ⟨_, rfl⟩
  refine jT_lo (e' := Int64.ofInt x60) (by rw [su9, hx60, show (1024 : Int64) = Int64.ofInt 1024 from rfl, li_mul, li_add]) ?_
  have bx : -8890000000000 ≤ x60 ∧ x60 ≤ 8890000000000 := by
    have h1 := bu9
    have h2 := bq18
    clear hval hc10 hc11 hc12 hc13 hc14 hc15 hc16 hc17 hc18 hd0 hd1 hd2 hd3 hd4 hd5 hd6 hd7 hd8 hd9
    omega
  clear sq10 sq11 sq12 sq13 sq14 sq15 sq16 sq17 sq18 su0 su1 su2 su3 su4 su5 su6 su7 su8 su9 bc10 bc11 bc12 bc13 bc14 bc15 bc16 bc17 bc18 bd0 bd1 bd2 bd3 bd4 bd5 bd6 bd7 bd8 bd9 bu0 bu1 bu2 bu3 bu4 bu5 bu6 bu7 bu8 bu9 bq10 bq11 bq12 bq13 bq14 bq15 bq16 bq17 bq18 bt9
  have r0 : jL H10 a0 0 = Int64.ofInt t0 := z10 0 (by decide)
  obtain ⟨y61, hy61⟩ : ∃ c, c = t0 + x60 * 15632 := ⟨_, rfl⟩
  refine jT_g (gL kk10 (by decide)) (jT_lo (e' := Int64.ofInt y61) (by rw [hy61, show (0 : Int32).toNatClampNeg = 0 from rfl, r0, show (15632 : Int64) = Int64.ofInt 15632 from rfl, li_mul, li_add]) ?_)
  have by61 : -9223372036854775808 ≤ y61 ∧ y61 < 9223372036854775808 := by
    clear hval hc10 hc11 hc12 hc13 hc14 hc15 hc16 hc17 hc18 hd0 hd1 hd2 hd3 hd4 hd5 hd6 hd7 hd8 hd9
    omega
  refine jT_g (gL kk10 (by decide)) (jT_w fr10 rfl z10 (i := 0) (v := y61 % 67108864) rfl (li_and26 _) fun H11 fr11 z11 => ?_)
  have kk11 : jK H11 a0 = (103, 10) := by rw [fr11.1, k0]
  have r1 : jL H11 a0 1 = Int64.ofInt t1 := z11 1 (by decide)
  obtain ⟨y63, hy63⟩ : ∃ c, c = y61 / 67108864 + t1 + x60 * 1024 := ⟨_, rfl⟩
  refine jT_g (gL kk11 (by decide)) (jT_lo (e' := Int64.ofInt y63) (by rw [hy63, li_shr26 by61.1 by61.2, show (1 : Int32).toNatClampNeg = 1 from rfl, r1, show (1024 : Int64) = Int64.ofInt 1024 from rfl, li_mul, li_add, li_add]) ?_)
  have by63 : -9007199254740992000 ≤ y63 ∧ y63 < 9007199254740992000 ∧ -136000000 ≤ y63 / 67108864 ∧ y63 / 67108864 ≤ 136000000 := by
    clear hval hc10 hc11 hc12 hc13 hc14 hc15 hc16 hc17 hc18 hd0 hd1 hd2 hd3 hd4 hd5 hd6 hd7 hd8 hd9
    omega
  refine jT_g (gL kk11 (by decide)) (jT_w fr11 rfl z11 (i := 1) (v := y63 % 67108864) rfl (li_and26 _) fun H12 fr12 z12 => ?_)
  have kk12 : jK H12 a0 = (103, 10) := by rw [fr12.1, k0]
  have r2 : jL H12 a0 2 = Int64.ofInt t2 := z12 2 (by decide)
  refine jT_g (gL kk12 (by decide)) (jT_g (gL kk12 (by decide)) (jT_w fr12 rfl z12 (i := 2) (v := t2 + y63 / 67108864) rfl (by rw [show (2 : Int32).toNatClampNeg = 2 from rfl, r2, li_shr26 (by omega) (by omega), li_add]) fun H13 fr13 z13 => jT_ret ?_))
  refine hk H13 fr13 ⟨_, z13, fun i hi => ?_, ?_⟩
  · clear hval hc10 hc11 hc12 hc13 hc14 hc15 hc16 hc17 hc18 hd0 hd1 hd2 hd3 hd4 hd5 hd6 hd7 hd8 hd9
    unfold zRb
    have c1 : 0 ≤ y61 % 67108864 ∧ y61 % 67108864 < 67108864 := by omega
    have c2 : 0 ≤ y63 % 67108864 ∧ y63 % 67108864 < 67108864 := by omega
    rcases (show i = 0 ∨ i = 1 ∨ i = 2 ∨ i = 3 ∨ i = 4 ∨ i = 5 ∨ i = 6 ∨ i = 7 ∨ i = 8 ∨ i = 9 by omega) with rfl | rfl | rfl | rfl | rfl | rfl | rfl | rfl | rfl | rfl <;>
    · unfold zup
      simp (decide := true) only [reduceIte]
      omega
  · have key := fe_folds (s0 := p 0 0) (s1 := p 0 1 + p 1 0) (s2 := p 0 2 + p 1 1 + p 2 0) (s3 := p 0 3 + p 1 2 + p 2 1 + p 3 0) (s4 := p 0 4 + p 1 3 + p 2 2 + p 3 1 + p 4 0) (s5 := p 0 5 + p 1 4 + p 2 3 + p 3 2 + p 4 1 + p 5 0) (s6 := p 0 6 + p 1 5 + p 2 4 + p 3 3 + p 4 2 + p 5 1 + p 6 0) (s7 := p 0 7 + p 1 6 + p 2 5 + p 3 4 + p 4 3 + p 5 2 + p 6 1 + p 7 0) (s8 := p 0 8 + p 1 7 + p 2 6 + p 3 5 + p 4 4 + p 5 3 + p 6 2 + p 7 1 + p 8 0) (s9 := p 0 9 + p 1 8 + p 2 7 + p 3 6 + p 4 5 + p 5 4 + p 6 3 + p 7 2 + p 8 1 + p 9 0) (s10 := p 1 9 + p 2 8 + p 3 7 + p 4 6 + p 5 5 + p 6 4 + p 7 3 + p 8 2 + p 9 1) (s11 := p 2 9 + p 3 8 + p 4 7 + p 5 6 + p 6 5 + p 7 4 + p 8 3 + p 9 2) (s12 := p 3 9 + p 4 8 + p 5 7 + p 6 6 + p 7 5 + p 8 4 + p 9 3) (s13 := p 4 9 + p 5 8 + p 6 7 + p 7 6 + p 8 5 + p 9 4) (s14 := p 5 9 + p 6 8 + p 7 7 + p 8 6 + p 9 5) (s15 := p 6 9 + p 7 8 + p 8 7 + p 9 6) (s16 := p 7 9 + p 8 8 + p 9 7) (s17 := p 8 9 + p 9 8) (s18 := p 9 9) (q10 := q10) (q11 := q11) (q12 := q12) (q13 := q13) (q14 := q14) (q15 := q15) (q16 := q16) (q17 := q17) (q18 := q18) (h0 := h0) (h1 := h1) (h2 := h2) (h3 := h3) (h4 := h4) (h5 := h5) (h6 := h6) (h7 := h7) (h8 := h8) (h9 := q18) (t0 := t0) (u0 := u0) (t1 := t1) (u1 := u1) (t2 := t2) (u2 := u2) (t3 := t3) (u3 := u3) (t4 := t4) (u4 := u4) (t5 := t5) (u5 := u5) (t6 := t6) (u6 := u6) (t7 := t7) (u7 := u7) (t8 := t8) (u8 := u8) (t9 := t9) (u9 := u9) (x60 := x60) (v0 := y61 % 67108864) (w0 := y61 / 67108864) (v1 := y63 % 67108864) (w1 := y63 / 67108864)
      (mul_e10 hc10 hq10 hh0) (mul_e11 hc11 hq11 hh1) (mul_e12 hc12 hq12 hh2) (mul_e13 hc13 hq13 hh3) (mul_e14 hc14 hq14 hh4) (mul_e15 hc15 hq15 hh5) (mul_e16 hc16 hq16 hh6) (mul_e17 hc17 hq17 hh7) (mul_e18 hc18 hq18 hh8) rfl (mul_f0 hd0 hu0 ht0) (mul_f1 hd1 hu1 ht1) (mul_f2 hd2 hu2 ht2) (mul_f3 hd3 hu3 ht3) (mul_f4 hd4 hu4 ht4) (mul_f5 hd5 hu5 ht5) (mul_f6 hd6 hu6 ht6) (mul_f7 hd7 hu7 ht7) (mul_f8 hd8 hu8 ht8) (mul_f9 hd9 hu9 ht9) hx60 (by omega) (by omega)
    have e : fe (zup (zup (zup (zup (zup (zup (zup (zup (zup (zup (zup (zup (zup G 0 t0) 1 t1) 2 t2) 3 t3) 4 t4) 5 t5) 6 t6) 7 t7) 8 t8) 9 t9) 0 (y61 % 67108864)) 1 (y63 % 67108864)) 2 (t2 + y63 / 67108864)) = (y61 % 67108864) + 67108864 * (y63 % 67108864) + 4503599627370496 * (t2 + y63 / 67108864) + 302231454903657293676544 * t3 + 20282409603651670423947251286016 * t4 + 1361129467683753853853498429727072845824 * t5 + 91343852333181432387730302044767688728495783936 * t6 + 6129982163463555433433388108601236734474956488734408704 * t7 + 411376139330301510538742295639337626245683966408394965837152256 * t8 + 27606985387162255149739023449108101809804435888681546220650096895197184 * t9 := by
      unfold fe zup
      simp (decide := true) only [reduceIte]
    rw [e, key, ← hval, ← f3, ← g3, ← ef_mul, ef_eq]
    rw [show fe f * fe g - 1852673427797059126777135760139006525652319754650249024631321344126541354746608 * (1 * h0 + 67108864 * h1 + 4503599627370496 * h2 + 302231454903657293676544 * h3 + 20282409603651670423947251286016 * h4 + 1361129467683753853853498429727072845824 * h5 + 91343852333181432387730302044767688728495783936 * h6 + 6129982163463555433433388108601236734474956488734408704 * h7 + 411376139330301510538742295639337626245683966408394965837152256 * h8 + 27606985387162255149739023449108101809804435888681546220650096895197184 * q18 + x60) = fe f * fe g + (-16 * (1 * h0 + 67108864 * h1 + 4503599627370496 * h2 + 302231454903657293676544 * h3 + 20282409603651670423947251286016 * h4 + 1361129467683753853853498429727072845824 * h5 + 91343852333181432387730302044767688728495783936 * h6 + 6129982163463555433433388108601236734474956488734408704 * h7 + 411376139330301510538742295639337626245683966408394965837152256 * h8 + 27606985387162255149739023449108101809804435888681546220650096895197184 * q18 + x60)) * (np_P : Int) by
      rw [show (np_P : Int) = 115792089237316195423570985008687907853269984665640564039457584007908834671663 from rfl]
      generalize 1 * h0 + 67108864 * h1 + 4503599627370496 * h2 + 302231454903657293676544 * h3 + 20282409603651670423947251286016 * h4 + 1361129467683753853853498429727072845824 * h5 + 91343852333181432387730302044767688728495783936 * h6 + 6129982163463555433433388108601236734474956488734408704 * h7 + 411376139330301510538742295639337626245683966408394965837152256 * h8 + 27606985387162255149739023449108101809804435888681546220650096895197184 * q18 + x60 = yy
      generalize fe f * fe g = zz
      omega, Int.add_mul_emod_self_right]
end MUL
