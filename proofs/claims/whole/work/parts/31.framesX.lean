set_option maxRecDepth 100000 in
theorem fr_X4_append  (τ : Tau) (p1 : Int64) (p2 : Int32) (R : Tau) (hf : fX4_append τ p1 p2 = some R) : Fr [(14, 1)] [15] τ R := by
  have L5 : ∀ (n5 : Nat) (τ : Tau) (x_4 : Int32), fX4_append_5 p1 p2 n5 τ x_4 = some R → Fr [(14, 1)] [15] τ R := by
    intro n5
    induction n5 with
    | zero => intro τ x_4 hf; exact absurd hf (by rw [fX4_append_5]; simp)
    | succ n5 ih5 =>
      intro τ x_4 hf
      rw [fX4_append_5] at hf
      have g : Fr [(14, 1)] [15] τ τ := Fr.rf
      by_cases c2 : x_4 < 0
      · have hf := (if_pos c2).symm.trans hf
        replace hf := Option.some.inj hf
        subst hf
        exact g
      · have hf := (if_neg c2).symm.trans hf
        by_cases c3 : tI τ 14 1 < 0
        · have hf := (if_pos c3).symm.trans hf
          replace hf := Option.some.inj hf
          subst hf
          exact g
        · have hf := (if_neg c3).symm.trans hf
          by_cases c4 : (80 : Int32) ≤ tI τ 14 1
          · have hf := (if_pos c4).symm.trans hf
            replace hf := Option.some.inj hf
            subst hf
            exact g
          · have hf := (if_neg c4).symm.trans hf
            obtain ⟨b5, hf⟩ := ks_ok hf
            obtain ⟨t6, et6, hf⟩ := ks_nm hf
            have g := g.tr (show Fr _ _ _ t6 by rw [et6]; exact Fr.sA (by decide))
            obtain ⟨t7, et7, hf⟩ := ks_nm hf
            have g := g.tr (show Fr _ _ _ t7 by rw [et7]; exact Fr.sI (by decide))
            obtain ⟨x8, ex8, hf⟩ := ks_nm hf
            exact g.tr (ih5 _ _ hf)
  unfold fX4_append at hf
  have g : Fr [(14, 1)] [15] τ τ := Fr.rf
  obtain ⟨x1, ex1, hf⟩ := ks_nm hf
  exact g.tr (L5 FU _ _ hf)
set_option maxRecDepth 100000 in
theorem fr_X4_takeWord  (τ : Tau) (R : Tau) (hf : fX4_takeWord τ = some R) : Fr [(14, 2), (14, 3), (14, 6)] [] τ R := by
  have L62 : ∀ (n62 : Nat) (τ : Tau) (x_1 : Int64) (x_3 : Int32), fX4_takeWord_62 n62 τ x_1 x_3 = some R → Fr [(14, 2), (14, 3), (14, 6)] [] τ R := by
    intro n62
    induction n62 with
    | zero => intro τ x_1 x_3 hf; exact absurd hf (by rw [fX4_takeWord_62]; simp)
    | succ n62 ih62 =>
      have L90 : ∀ (τ : Tau) (x_1 : Int64) (x_3 : Int32), fX4_takeWord_90 (fX4_takeWord_62 n62) τ x_1 x_3 = some R → Fr [(14, 2), (14, 3), (14, 6)] [] τ R := by
        intro τ x_1 x_3 hf
        unfold fX4_takeWord_90 at hf
        have g : Fr [(14, 2), (14, 3), (14, 6)] [] τ τ := Fr.rf
        obtain ⟨x14, ex14, hf⟩ := ks_nm hf
        exact g.tr (ih62 _ _ _ hf)
      intro τ x_1 x_3 hf
      rw [fX4_takeWord_62] at hf
      have g : Fr [(14, 2), (14, 3), (14, 6)] [] τ τ := Fr.rf
      by_cases c9 : (9 : Int32) ≤ x_3
      · have hf := (if_pos c9).symm.trans hf
        replace hf := Option.some.inj hf
        subst hf
        exact g
      · have hf := (if_neg c9).symm.trans hf
        obtain ⟨b10, hf⟩ := ks_ok hf
        by_cases c11 : lg_cmp (vWORDS x_3.toNatClampNeg) x_1 = 0
        · have hf := (if_pos c11).symm.trans hf
          obtain ⟨t12, et12, hf⟩ := ks_nm hf
          have g := g.tr (show Fr _ _ _ t12 by rw [et12]; exact Fr.sI (by decide))
          obtain ⟨t13, et13, hf⟩ := ks_nm hf
          have g := g.tr (show Fr _ _ _ t13 by rw [et13]; exact Fr.sI (by decide))
          exact g.tr (L90 _ _ _ hf)
        · have hf := (if_neg c11).symm.trans hf
          exact g.tr (L90 _ _ _ hf)
  have L55 : ∀ (τ : Tau) (x_1 : Int64), fX4_takeWord_55 τ x_1 = some R → Fr [(14, 2), (14, 3), (14, 6)] [] τ R := by
    intro τ x_1 hf
    unfold fX4_takeWord_55 at hf
    have g : Fr [(14, 2), (14, 3), (14, 6)] [] τ τ := Fr.rf
    obtain ⟨t8, et8, hf⟩ := ks_nm hf
    have g := g.tr (show Fr _ _ _ t8 by rw [et8]; exact Fr.sI (by decide))
    exact g.tr (L62 FU _ _ _ hf)
  have L2 : ∀ (n2 : Nat) (τ : Tau) (x_1 : Int64), fX4_takeWord_2 n2 τ x_1 = some R → Fr [(14, 2), (14, 3), (14, 6)] [] τ R := by
    intro n2
    induction n2 with
    | zero => intro τ x_1 hf; exact absurd hf (by rw [fX4_takeWord_2]; simp)
    | succ n2 ih2 =>
      intro τ x_1 hf
      rw [fX4_takeWord_2] at hf
      have g : Fr [(14, 2), (14, 3), (14, 6)] [] τ τ := Fr.rf
      by_cases c1 : tI τ 14 1 ≤ tI τ 14 6
      · have hf := (if_pos c1).symm.trans hf
        exact g.tr (L55 _ _ hf)
      · have hf := (if_neg c1).symm.trans hf
        obtain ⟨r2, er2, hf⟩ := ks_bind hf
        obtain ⟨r3, er3, hf⟩ := ks_nm hf
        by_cases c4 : bI r3 = 0
        · have hf := (if_pos c4).symm.trans hf
          exact g.tr (L55 _ _ hf)
        · have hf := (if_neg c4).symm.trans hf
          obtain ⟨r5, er5, hf⟩ := ks_bind hf
          obtain ⟨x6, ex6, hf⟩ := ks_nm hf
          obtain ⟨t7, et7, hf⟩ := ks_nm hf
          have g := g.tr (show Fr _ _ _ t7 by rw [et7]; exact Fr.sI (by decide))
          exact g.tr (ih2 _ _ hf)
  unfold fX4_takeWord at hf
  have g : Fr [(14, 2), (14, 3), (14, 6)] [] τ τ := Fr.rf
  exact g.tr (L2 FU _ _ hf)
set_option maxRecDepth 100000 in
theorem fr_X4_takeNumber  (τ : Tau) (R : Tau) (hf : fX4_takeNumber τ = some R) : Fr [(14, 2), (14, 3), (14, 6)] [] τ R := by
  have L98 : ∀ (τ : Tau) (z_0 : Int32), fX4_takeNumber_98 τ z_0 = some R → Fr [(14, 2), (14, 3), (14, 6)] [] τ R := by
    intro τ z_0 hf
    unfold fX4_takeNumber_98 at hf
    have g : Fr [(14, 2), (14, 3), (14, 6)] [] τ τ := Fr.rf
    by_cases c11 : z_0 = 0
    · have hf := (if_pos c11).symm.trans hf
      obtain ⟨t12, et12, hf⟩ := ks_nm hf
      have g := g.tr (show Fr _ _ _ t12 by rw [et12]; exact Fr.sI (by decide))
      replace hf := Option.some.inj hf
      subst hf
      exact g
    · have hf := (if_neg c11).symm.trans hf
      obtain ⟨t13, et13, hf⟩ := ks_nm hf
      have g := g.tr (show Fr _ _ _ t13 by rw [et13]; exact Fr.sI (by decide))
      replace hf := Option.some.inj hf
      subst hf
      exact g
  have L97 : ∀ (τ : Tau), fX4_takeNumber_97 τ = some R → Fr [(14, 2), (14, 3), (14, 6)] [] τ R := by
    intro τ hf
    unfold fX4_takeNumber_97 at hf
    have g : Fr [(14, 2), (14, 3), (14, 6)] [] τ τ := Fr.rf
    exact g.tr (L98 _ _ hf)
  have L67 : ∀ (τ : Tau), fX4_takeNumber_67 τ = some R → Fr [(14, 2), (14, 3), (14, 6)] [] τ R := by
    intro τ hf
    unfold fX4_takeNumber_67 at hf
    have g : Fr [(14, 2), (14, 3), (14, 6)] [] τ τ := Fr.rf
    obtain ⟨r8, er8, hf⟩ := ks_bind hf
    by_cases c9 : r8 = (48 : Int32)
    · have hf := (if_pos c9).symm.trans hf
      by_cases c10 : (tI τ 14 6 - tI τ 14 4) ≤ (1 : Int32)
      · have hf := (if_pos c10).symm.trans hf
        exact g.tr (L97 _ hf)
      · have hf := (if_neg c10).symm.trans hf
        exact g.tr (L98 _ _ hf)
    · have hf := (if_neg c9).symm.trans hf
      exact g.tr (L97 _ hf)
  have L0 : ∀ (n0 : Nat) (τ : Tau), fX4_takeNumber_0 n0 τ = some R → Fr [(14, 2), (14, 3), (14, 6)] [] τ R := by
    intro n0
    induction n0 with
    | zero => intro τ hf; exact absurd hf (by rw [fX4_takeNumber_0]; simp)
    | succ n0 ih0 =>
      intro τ hf
      rw [fX4_takeNumber_0] at hf
      have g : Fr [(14, 2), (14, 3), (14, 6)] [] τ τ := Fr.rf
      by_cases c1 : tI τ 14 1 ≤ tI τ 14 6
      · have hf := (if_pos c1).symm.trans hf
        exact g.tr (L67 _ hf)
      · have hf := (if_neg c1).symm.trans hf
        obtain ⟨r2, er2, hf⟩ := ks_bind hf
        obtain ⟨r3, er3, hf⟩ := ks_nm hf
        by_cases c4 : bI r3 = 0
        · have hf := (if_pos c4).symm.trans hf
          exact g.tr (L67 _ hf)
        · have hf := (if_neg c4).symm.trans hf
          obtain ⟨r5, er5, hf⟩ := ks_bind hf
          obtain ⟨t6, et6, hf⟩ := ks_nm hf
          have g := g.tr (show Fr _ _ _ t6 by rw [et6]; exact Fr.sI (by decide))
          obtain ⟨t7, et7, hf⟩ := ks_nm hf
          have g := g.tr (show Fr _ _ _ t7 by rw [et7]; exact Fr.sI (by decide))
          exact g.tr (ih0 _ hf)
  unfold fX4_takeNumber at hf
  have g : Fr [(14, 2), (14, 3), (14, 6)] [] τ τ := Fr.rf
  exact g.tr (L0 FU _ hf)
set_option maxRecDepth 100000 in
theorem fr_X4_takeSign  (τ : Tau) (p1 : Int32) (R : Tau) (hf : fX4_takeSign τ p1 = R) : Fr [(14, 2), (14, 3), (14, 6)] [] τ R := by
  have L74 : ∀ (τ : Tau), fX4_takeSign_74 p1 τ = R → Fr [(14, 2), (14, 3), (14, 6)] [] τ R := by
    intro τ hf
    unfold fX4_takeSign_74 at hf
    have g : Fr [(14, 2), (14, 3), (14, 6)] [] τ τ := Fr.rf
    obtain ⟨t13, et13, hf⟩ := ks_nm hf
    have g := g.tr (show Fr _ _ _ t13 by rw [et13]; exact Fr.sI (by decide))
    subst hf
    exact g
  have L38 : ∀ (τ : Tau), fX4_takeSign_38 p1 τ = R → Fr [(14, 2), (14, 3), (14, 6)] [] τ R := by
    intro τ hf
    unfold fX4_takeSign_38 at hf
    have g : Fr [(14, 2), (14, 3), (14, 6)] [] τ τ := Fr.rf
    by_cases c6 : p1 = (58 : Int32)
    · have hf := (if_pos c6).symm.trans hf
      exact g.tr (L74 _ hf)
    · have hf := (if_neg c6).symm.trans hf
      by_cases c7 : p1 = (124 : Int32)
      · have hf := (if_pos c7).symm.trans hf
        exact g.tr (L74 _ hf)
      · have hf := (if_neg c7).symm.trans hf
        by_cases c8 : p1 = (38 : Int32)
        · have hf := (if_pos c8).symm.trans hf
          exact g.tr (L74 _ hf)
        · have hf := (if_neg c8).symm.trans hf
          by_cases c9 : p1 = (33 : Int32)
          · have hf := (if_pos c9).symm.trans hf
            exact g.tr (L74 _ hf)
          · have hf := (if_neg c9).symm.trans hf
            by_cases c10 : p1 = (40 : Int32)
            · have hf := (if_pos c10).symm.trans hf
              exact g.tr (L74 _ hf)
            · have hf := (if_neg c10).symm.trans hf
              by_cases c11 : p1 = (41 : Int32)
              · have hf := (if_pos c11).symm.trans hf
                exact g.tr (L74 _ hf)
              · have hf := (if_neg c11).symm.trans hf
                obtain ⟨t12, et12, hf⟩ := ks_nm hf
                have g := g.tr (show Fr _ _ _ t12 by rw [et12]; exact Fr.sI (by decide))
                subst hf
                exact g
  unfold fX4_takeSign at hf
  have g : Fr [(14, 2), (14, 3), (14, 6)] [] τ τ := Fr.rf
  obtain ⟨t1, et1, hf⟩ := ks_nm hf
  have g := g.tr (show Fr _ _ _ t1 by rw [et1]; exact Fr.sI (by decide))
  by_cases c2 : p1 < (65 : Int32)
  · have hf := (if_pos c2).symm.trans hf
    exact g.tr (L38 _ hf)
  · have hf := (if_neg c2).symm.trans hf
    by_cases c3 : (69 : Int32) ≤ p1
    · have hf := (if_pos c3).symm.trans hf
      exact g.tr (L38 _ hf)
    · have hf := (if_neg c3).symm.trans hf
      obtain ⟨t4, et4, hf⟩ := ks_nm hf
      have g := g.tr (show Fr _ _ _ t4 by rw [et4]; exact Fr.sI (by decide))
      obtain ⟨t5, et5, hf⟩ := ks_nm hf
      have g := g.tr (show Fr _ _ _ t5 by rw [et5]; exact Fr.sI (by decide))
      subst hf
      exact g
set_option maxRecDepth 100000 in
theorem fr_X4_advance  (τ : Tau) (R : Tau) (hf : fX4_advance τ = some R) : Fr [(14, 2), (14, 3), (14, 4), (14, 5), (14, 6)] [] τ R := by
  have L47 : ∀ (τ : Tau), fX4_advance_47 τ = some R → Fr [(14, 2), (14, 3), (14, 4), (14, 5), (14, 6)] [] τ R := by
    intro τ hf
    unfold fX4_advance_47 at hf
    have g : Fr [(14, 2), (14, 3), (14, 4), (14, 5), (14, 6)] [] τ τ := Fr.rf
    obtain ⟨t6, et6, hf⟩ := ks_nm hf
    have g := g.tr (show Fr _ _ _ t6 by rw [et6]; exact Fr.sI (by decide))
    obtain ⟨t7, et7, hf⟩ := ks_nm hf
    have g := g.tr (show Fr _ _ _ t7 by rw [et7]; exact Fr.sI (by decide))
    obtain ⟨r8, er8, hf⟩ := ks_bind hf
    by_cases c9 : 0 ≤ r8
    · have hf := (if_pos c9).symm.trans hf
      obtain ⟨r10, er10, hf⟩ := ks_nm hf
      by_cases c11 : bI r10 = 0
      · have hf := (if_pos c11).symm.trans hf
        obtain ⟨r12, er12, hf⟩ := ks_nm hf
        by_cases c13 : bI r12 = 0
        · have hf := (if_pos c13).symm.trans hf
          obtain ⟨r14, er14, hf⟩ := ks_nm hf
          have g := g.tr ((fr_X4_takeSign _ _ _ er14.symm).wk (by decide) (by decide))
          replace hf := Option.some.inj hf
          subst hf
          exact g
        · have hf := (if_neg c13).symm.trans hf
          obtain ⟨r15, er15, hf⟩ := ks_bind hf
          have g := g.tr ((fr_X4_takeNumber _ _ er15).wk (by decide) (by decide))
          replace hf := Option.some.inj hf
          subst hf
          exact g
      · have hf := (if_neg c11).symm.trans hf
        obtain ⟨r16, er16, hf⟩ := ks_bind hf
        have g := g.tr ((fr_X4_takeWord _ _ er16).wk (by decide) (by decide))
        replace hf := Option.some.inj hf
        subst hf
        exact g
    · have hf := (if_neg c9).symm.trans hf
      obtain ⟨t17, et17, hf⟩ := ks_nm hf
      have g := g.tr (show Fr _ _ _ t17 by rw [et17]; exact Fr.sI (by decide))
      replace hf := Option.some.inj hf
      subst hf
      exact g
  have L10 : ∀ (n10 : Nat) (τ : Tau), fX4_advance_10 n10 τ = some R → Fr [(14, 2), (14, 3), (14, 4), (14, 5), (14, 6)] [] τ R := by
    intro n10
    induction n10 with
    | zero => intro τ hf; exact absurd hf (by rw [fX4_advance_10]; simp)
    | succ n10 ih10 =>
      intro τ hf
      rw [fX4_advance_10] at hf
      have g : Fr [(14, 2), (14, 3), (14, 4), (14, 5), (14, 6)] [] τ τ := Fr.rf
      by_cases c2 : tI τ 14 1 ≤ tI τ 14 6
      · have hf := (if_pos c2).symm.trans hf
        exact g.tr (L47 _ hf)
      · have hf := (if_neg c2).symm.trans hf
        obtain ⟨r3, er3, hf⟩ := ks_bind hf
        by_cases c4 : r3 = (32 : Int32)
        · have hf := (if_pos c4).symm.trans hf
          obtain ⟨t5, et5, hf⟩ := ks_nm hf
          have g := g.tr (show Fr _ _ _ t5 by rw [et5]; exact Fr.sI (by decide))
          exact g.tr (ih10 _ hf)
        · have hf := (if_neg c4).symm.trans hf
          exact g.tr (L47 _ hf)
  unfold fX4_advance at hf
  have g : Fr [(14, 2), (14, 3), (14, 4), (14, 5), (14, 6)] [] τ τ := Fr.rf
  obtain ⟨t1, et1, hf⟩ := ks_nm hf
  have g := g.tr (show Fr _ _ _ t1 by rw [et1]; exact Fr.sI (by decide))
  exact g.tr (L10 FU _ hf)
set_option maxRecDepth 100000 in
theorem fr_X4_begin  (τ : Tau) (R : Tau) (hf : fX4_begin τ = some R) : Fr [(14, 2), (14, 3), (14, 4), (14, 5), (14, 6)] [] τ R := by
  unfold fX4_begin at hf
  have g : Fr [(14, 2), (14, 3), (14, 4), (14, 5), (14, 6)] [] τ τ := Fr.rf
  obtain ⟨t1, et1, hf⟩ := ks_nm hf
  have g := g.tr (show Fr _ _ _ t1 by rw [et1]; exact Fr.sI (by decide))
  obtain ⟨t2, et2, hf⟩ := ks_nm hf
  have g := g.tr (show Fr _ _ _ t2 by rw [et2]; exact Fr.sI (by decide))
  obtain ⟨r3, er3, hf⟩ := ks_bind hf
  have g := g.tr ((fr_X4_advance _ _ er3).wk (by decide) (by decide))
  replace hf := Option.some.inj hf
  subst hf
  exact g
set_option maxRecDepth 100000 in
theorem fr_X5_begin (q3 : Nat) (τ : Tau) (p1 : Int32) (p2 : Int32) (R : Tau) (hf : fX5_begin q3 τ p1 p2 = some R) : Fr [(18, 3), (18, 4), (18, 5)] [20] τ R := by
  have L3 : ∀ (n3 : Nat) (τ : Tau) (x_4 : Int32), fX5_begin_3 q3 p1 p2 n3 τ x_4 = some R → Fr [(18, 3), (18, 4), (18, 5)] [20] τ R := by
    intro n3
    induction n3 with
    | zero => intro τ x_4 hf; exact absurd hf (by rw [fX5_begin_3]; simp)
    | succ n3 ih3 =>
      have L33 : ∀ (τ : Tau) (x_4 : Int32) (z_0 : Int32) (z_1 : Int32), fX5_begin_33 q3 p1 p2 (fX5_begin_3 q3 p1 p2 n3) τ x_4 z_0 z_1 = some R → Fr [(18, 3), (18, 4), (18, 5)] [20] τ R := by
        intro τ x_4 z_0 z_1 hf
        unfold fX5_begin_33 at hf
        have g : Fr [(18, 3), (18, 4), (18, 5)] [20] τ τ := Fr.rf
        obtain ⟨b6, hf⟩ := ks_ok hf
        obtain ⟨t7, et7, hf⟩ := ks_nm hf
        have g := g.tr (show Fr _ _ _ t7 by rw [et7]; exact Fr.sA (by decide))
        obtain ⟨x8, ex8, hf⟩ := ks_nm hf
        exact g.tr (ih3 _ _ hf)
      intro τ x_4 hf
      rw [fX5_begin_3] at hf
      have g : Fr [(18, 3), (18, 4), (18, 5)] [20] τ τ := Fr.rf
      by_cases c1 : (16 : Int32) ≤ x_4
      · have hf := (if_pos c1).symm.trans hf
        obtain ⟨t2, et2, hf⟩ := ks_nm hf
        have g := g.tr (show Fr _ _ _ t2 by rw [et2]; exact Fr.sI (by decide))
        obtain ⟨t3, et3, hf⟩ := ks_nm hf
        have g := g.tr (show Fr _ _ _ t3 by rw [et3]; exact Fr.sI (by decide))
        obtain ⟨t4, et4, hf⟩ := ks_nm hf
        have g := g.tr (show Fr _ _ _ t4 by rw [et4]; exact Fr.sI (by decide))
        replace hf := Option.some.inj hf
        subst hf
        exact g
      · have hf := (if_neg c1).symm.trans hf
        obtain ⟨r5, er5, hf⟩ := ks_nm hf
        exact g.tr (L33 _ _ _ _ hf)
  unfold fX5_begin at hf
  have g : Fr [(18, 3), (18, 4), (18, 5)] [20] τ τ := Fr.rf
  exact g.tr (L3 FU _ _ hf)
set_option maxRecDepth 100000 in
theorem fr_X5_begin0  (τ : Tau) (p1 : Int32) (p2 : Int32) (R : Tau) (hf : fX5_begin0 τ p1 p2 = some R) : Fr [(18, 3), (18, 4), (18, 5)] [20] τ R := by
  have L3 : ∀ (n3 : Nat) (τ : Tau) (x_4 : Int32), fX5_begin0_3 p1 p2 n3 τ x_4 = some R → Fr [(18, 3), (18, 4), (18, 5)] [20] τ R := by
    intro n3
    induction n3 with
    | zero => intro τ x_4 hf; exact absurd hf (by rw [fX5_begin0_3]; simp)
    | succ n3 ih3 =>
      have L33 : ∀ (τ : Tau) (x_4 : Int32) (z_0 : Int32) (z_1 : Int32), fX5_begin0_33 p1 p2 (fX5_begin0_3 p1 p2 n3) τ x_4 z_0 z_1 = some R → Fr [(18, 3), (18, 4), (18, 5)] [20] τ R := by
        intro τ x_4 z_0 z_1 hf
        unfold fX5_begin0_33 at hf
        have g : Fr [(18, 3), (18, 4), (18, 5)] [20] τ τ := Fr.rf
        obtain ⟨b5, hf⟩ := ks_ok hf
        obtain ⟨t6, et6, hf⟩ := ks_nm hf
        have g := g.tr (show Fr _ _ _ t6 by rw [et6]; exact Fr.sA (by decide))
        obtain ⟨x7, ex7, hf⟩ := ks_nm hf
        exact g.tr (ih3 _ _ hf)
      intro τ x_4 hf
      rw [fX5_begin0_3] at hf
      have g : Fr [(18, 3), (18, 4), (18, 5)] [20] τ τ := Fr.rf
      by_cases c1 : (16 : Int32) ≤ x_4
      · have hf := (if_pos c1).symm.trans hf
        obtain ⟨t2, et2, hf⟩ := ks_nm hf
        have g := g.tr (show Fr _ _ _ t2 by rw [et2]; exact Fr.sI (by decide))
        obtain ⟨t3, et3, hf⟩ := ks_nm hf
        have g := g.tr (show Fr _ _ _ t3 by rw [et3]; exact Fr.sI (by decide))
        obtain ⟨t4, et4, hf⟩ := ks_nm hf
        have g := g.tr (show Fr _ _ _ t4 by rw [et4]; exact Fr.sI (by decide))
        replace hf := Option.some.inj hf
        subst hf
        exact g
      · have hf := (if_neg c1).symm.trans hf
        exact g.tr (L33 _ _ _ _ hf)
  unfold fX5_begin0 at hf
  have g : Fr [(18, 3), (18, 4), (18, 5)] [20] τ τ := Fr.rf
  exact g.tr (L3 FU _ _ hf)
set_option maxRecDepth 100000 in
theorem fr_X5_fillFrom  (τ : Tau) (p1 : Int32) (p2 : Int32) (R : Tau) (hf : fX5_fillFrom τ p1 p2 = some R) : Fr [] [19, 21] τ R := by
  have L27 : ∀ (n27 : Nat) (τ : Tau) (x_3 : Int32) (x_4 : Int32), fX5_fillFrom_27 p1 p2 n27 τ x_3 x_4 = some R → Fr [] [19, 21] τ R := by
    intro n27
    induction n27 with
    | zero => intro τ x_3 x_4 hf; exact absurd hf (by rw [fX5_fillFrom_27]; simp)
    | succ n27 ih27 =>
      intro τ x_3 x_4 hf
      rw [fX5_fillFrom_27] at hf
      have g : Fr [] [19, 21] τ τ := Fr.rf
      by_cases c4 : x_4 < 0
      · have hf := (if_pos c4).symm.trans hf
        replace hf := Option.some.inj hf
        subst hf
        exact g
      · have hf := (if_neg c4).symm.trans hf
        by_cases c5 : tI τ 18 5 ≤ x_4
        · have hf := (if_pos c5).symm.trans hf
          replace hf := Option.some.inj hf
          subst hf
          exact g
        · have hf := (if_neg c5).symm.trans hf
          by_cases c6 : (6 : Int32) ≤ x_4
          · have hf := (if_pos c6).symm.trans hf
            replace hf := Option.some.inj hf
            subst hf
            exact g
          · have hf := (if_neg c6).symm.trans hf
            by_cases c7 : (7 : Int32) ≤ (x_4 + (1 : Int32))
            · have hf := (if_pos c7).symm.trans hf
              replace hf := Option.some.inj hf
              subst hf
              exact g
            · have hf := (if_neg c7).symm.trans hf
              obtain ⟨b8, hf⟩ := ks_ok hf
              obtain ⟨t9, et9, hf⟩ := ks_nm hf
              have g := g.tr (show Fr _ _ _ t9 by rw [et9]; exact Fr.sA (by decide))
              obtain ⟨b10, hf⟩ := ks_ok hf
              obtain ⟨b11, hf⟩ := ks_ok hf
              obtain ⟨t12, et12, hf⟩ := ks_nm hf
              have g := g.tr (show Fr _ _ _ t12 by rw [et12]; exact Fr.sA (by decide))
              obtain ⟨x13, ex13, hf⟩ := ks_nm hf
              exact g.tr (ih27 _ _ _ hf)
  have L23 : ∀ (τ : Tau) (z_0 : Int32), fX5_fillFrom_23 p1 p2 τ z_0 = some R → Fr [] [19, 21] τ R := by
    intro τ z_0 hf
    unfold fX5_fillFrom_23 at hf
    have g : Fr [] [19, 21] τ τ := Fr.rf
    exact g.tr (L27 FU _ _ _ hf)
  have L22 : ∀ (τ : Tau), fX5_fillFrom_22 p1 p2 τ = some R → Fr [] [19, 21] τ R := by
    intro τ hf
    unfold fX5_fillFrom_22 at hf
    have g : Fr [] [19, 21] τ τ := Fr.rf
    exact g.tr (L23 _ _ hf)
  unfold fX5_fillFrom at hf
  have g : Fr [] [19, 21] τ τ := Fr.rf
  by_cases c1 : p2 < 0
  · have hf := (if_pos c1).symm.trans hf
    exact g.tr (L22 _ hf)
  · have hf := (if_neg c1).symm.trans hf
    by_cases c2 : (16 : Int32) ≤ p2
    · have hf := (if_pos c2).symm.trans hf
      exact g.tr (L22 _ hf)
    · have hf := (if_neg c2).symm.trans hf
      obtain ⟨b3, hf⟩ := ks_ok hf
      exact g.tr (L23 _ _ hf)
set_option maxRecDepth 100000 in
theorem fr_X5_advance  (τ : Tau) (R : (Bool × Tau)) (hf : fX5_advance τ = some R) : Fr [(18, 5)] [19, 21] τ R.2 := by
  have L69 : ∀ (τ : Tau), fX5_advance_69 τ = some R → Fr [(18, 5)] [19, 21] τ R.2 := by
    intro τ hf
    unfold fX5_advance_69 at hf
    have g : Fr [(18, 5)] [19, 21] τ τ := Fr.rf
    by_cases c11 : tI τ 18 5 < tI τ 18 4
    · have hf := (if_pos c11).symm.trans hf
      obtain ⟨t12, et12, hf⟩ := ks_nm hf
      have g := g.tr (show Fr _ _ _ t12 by rw [et12]; exact Fr.sI (by decide))
      obtain ⟨r13, er13, hf⟩ := ks_bind hf
      have g := g.tr ((fr_X5_fillFrom _ _ _ _ er13).wk (by decide) (by decide))
      replace hf := Option.some.inj hf
      subst hf
      exact g
    · have hf := (if_neg c11).symm.trans hf
      replace hf := Option.some.inj hf
      subst hf
      exact g
  have L41 : ∀ (τ : Tau) (x_1 : Int32), fX5_advance_41 τ x_1 = some R → Fr [(18, 5)] [19, 21] τ R.2 := by
    intro τ x_1 hf
    unfold fX5_advance_41 at hf
    have g : Fr [(18, 5)] [19, 21] τ τ := Fr.rf
    by_cases c7 : x_1 < 0
    · have hf := (if_pos c7).symm.trans hf
      exact g.tr (L69 _ hf)
    · have hf := (if_neg c7).symm.trans hf
      by_cases c8 : (6 : Int32) ≤ x_1
      · have hf := (if_pos c8).symm.trans hf
        exact g.tr (L69 _ hf)
      · have hf := (if_neg c8).symm.trans hf
        obtain ⟨b9, hf⟩ := ks_ok hf
        obtain ⟨r10, er10, hf⟩ := ks_bind hf
        have g := g.tr ((fr_X5_fillFrom _ _ _ _ er10).wk (by decide) (by decide))
        replace hf := Option.some.inj hf
        subst hf
        exact g
  have L7 : ∀ (n7 : Nat) (τ : Tau) (x_1 : Int32), fX5_advance_7 n7 τ x_1 = some R → Fr [(18, 5)] [19, 21] τ R.2 := by
    intro n7
    induction n7 with
    | zero => intro τ x_1 hf; exact absurd hf (by rw [fX5_advance_7]; simp)
    | succ n7 ih7 =>
      intro τ x_1 hf
      rw [fX5_advance_7] at hf
      have g : Fr [(18, 5)] [19, 21] τ τ := Fr.rf
      by_cases c2 : x_1 < 0
      · have hf := (if_pos c2).symm.trans hf
        exact g.tr (L41 _ _ hf)
      · have hf := (if_neg c2).symm.trans hf
        by_cases c3 : (6 : Int32) ≤ x_1
        · have hf := (if_pos c3).symm.trans hf
          exact g.tr (L41 _ _ hf)
        · have hf := (if_neg c3).symm.trans hf
          obtain ⟨b4, hf⟩ := ks_ok hf
          by_cases c5 : tA τ 19 x_1.toNatClampNeg < (tI τ 18 3 - (1 : Int32))
          · have hf := (if_pos c5).symm.trans hf
            exact g.tr (L41 _ _ hf)
          · have hf := (if_neg c5).symm.trans hf
            obtain ⟨x6, ex6, hf⟩ := ks_nm hf
            exact g.tr (ih7 _ _ hf)
  unfold fX5_advance at hf
  have g : Fr [(18, 5)] [19, 21] τ τ := Fr.rf
  obtain ⟨x1, ex1, hf⟩ := ks_nm hf
  exact g.tr (L7 FU _ _ hf)
set_option maxRecDepth 100000 in
theorem fr_X0_shape  (τ : Tau) (p1 : Int32) (p2 : Int32) (R : Tau) (hf : fX0_shape τ p1 p2 = some R) : Fr [(17, 6), (17, 7), (17, 8), (17, 9)] [] τ R := by
  unfold fX0_shape at hf
  have g : Fr [(17, 6), (17, 7), (17, 8), (17, 9)] [] τ τ := Fr.rf
  obtain ⟨t1, et1, hf⟩ := ks_nm hf
  have g := g.tr (show Fr _ _ _ t1 by rw [et1]; exact Fr.sI (by decide))
  obtain ⟨t2, et2, hf⟩ := ks_nm hf
  have g := g.tr (show Fr _ _ _ t2 by rw [et2]; exact Fr.sI (by decide))
  obtain ⟨r3, er3, hf⟩ := ks_bind hf
  obtain ⟨t4, et4, hf⟩ := ks_nm hf
  have g := g.tr (show Fr _ _ _ t4 by rw [et4]; exact Fr.sI (by decide))
  obtain ⟨t5, et5, hf⟩ := ks_nm hf
  have g := g.tr (show Fr _ _ _ t5 by rw [et5]; exact Fr.sI (by decide))
  replace hf := Option.some.inj hf
  subst hf
  exact g
set_option maxRecDepth 100000 in
theorem fr_X0_mark (q1 : Nat) (τ : Tau) (p2 : Int32) (R : Tau) (hf : fX0_mark q1 τ p2 = some R) : Fr [(18, 3), (18, 4), (18, 5)] [19, 20, 21, 26] τ R := by
  have L21 : ∀ (n21 : Nat) (τ : Tau) (x_3 : Int32) (x_4 : Int32), fX0_mark_21 q1 p2 n21 τ x_3 x_4 = some R → Fr [(18, 3), (18, 4), (18, 5)] [19, 20, 21, 26] τ R := by
    intro n21
    induction n21 with
    | zero => intro τ x_3 x_4 hf; exact absurd hf (by rw [fX0_mark_21]; simp)
    | succ n21 ih21 =>
      have L86 : ∀ (τ : Tau) (x_4 : Int32) (z_0 : Int32) (z_1 : Int32), fX0_mark_86 q1 p2 (fX0_mark_21 q1 p2 n21) τ x_4 z_0 z_1 = some R → Fr [(18, 3), (18, 4), (18, 5)] [19, 20, 21, 26] τ R := by
        intro τ x_4 z_0 z_1 hf
        unfold fX0_mark_86 at hf
        have g : Fr [(18, 3), (18, 4), (18, 5)] [19, 20, 21, 26] τ τ := Fr.rf
        obtain ⟨b10, hf⟩ := ks_ok hf
        obtain ⟨t11, et11, hf⟩ := ks_nm hf
        have g := g.tr (show Fr _ _ _ t11 by rw [et11]; exact Fr.sA (by decide))
        obtain ⟨r12, er12, hf⟩ := ks_bind hf
        have g := g.tr ((fr_X5_advance _ _ er12).wk (by decide) (by decide))
        obtain ⟨x13, ex13, hf⟩ := ks_nm hf
        obtain ⟨x14, ex14, hf⟩ := ks_nm hf
        exact g.tr (ih21 _ _ _ hf)
      intro τ x_3 x_4 hf
      rw [fX0_mark_21] at hf
      have g : Fr [(18, 3), (18, 4), (18, 5)] [19, 20, 21, 26] τ τ := Fr.rf
      by_cases c2 : tI τ 17 8 ≤ x_4
      · have hf := (if_pos c2).symm.trans hf
        replace hf := Option.some.inj hf
        subst hf
        exact g
      · have hf := (if_neg c2).symm.trans hf
        by_cases c3 : nI (tI τ 26 0).toNatClampNeg ≤ x_4
        · have hf := (if_pos c3).symm.trans hf
          replace hf := Option.some.inj hf
          subst hf
          exact g
        · have hf := (if_neg c3).symm.trans hf
          by_cases c4 : x_3 = 0
          · have hf := (if_pos c4).symm.trans hf
            replace hf := Option.some.inj hf
            subst hf
            exact g
          · have hf := (if_neg c4).symm.trans hf
            obtain ⟨b5, hf⟩ := ks_ok hf
            obtain ⟨x6, ex6, hf⟩ := ks_nm hf
            obtain ⟨r7, er7, hf⟩ := ks_bind hf
            obtain ⟨r8, er8, hf⟩ := ks_nm hf
            by_cases c9 : bI r8 = 0
            · have hf := (if_pos c9).symm.trans hf
              exact g.tr (L86 _ _ _ _ hf)
            · have hf := (if_neg c9).symm.trans hf
              exact g.tr (L86 _ _ _ _ hf)
  unfold fX0_mark at hf
  have g : Fr [(18, 3), (18, 4), (18, 5)] [19, 20, 21, 26] τ τ := Fr.rf
  obtain ⟨r1, er1, hf⟩ := ks_bind hf
  have g := g.tr ((fr_X5_begin _ _ _ _ _ er1).wk (by decide) (by decide))
  exact g.tr (L21 FU _ _ _ hf)
set_option maxRecDepth 100000 in
theorem fr_X0_fillHeaps  (τ : Tau) (R : Tau) (hf : fX0_fillHeaps τ = some R) : Fr [] [22, 23] τ R := by
  have L26 : ∀ (n26 : Nat) (τ : Tau) (x_1 : Int32), fX0_fillHeaps_26 n26 τ x_1 = some R → Fr [] [22, 23] τ R := by
    intro n26
    induction n26 with
    | zero => intro τ x_1 hf; exact absurd hf (by rw [fX0_fillHeaps_26]; simp)
    | succ n26 ih26 =>
      have L94 : ∀ (τ : Tau) (x_1 : Int32), fX0_fillHeaps_94 (fX0_fillHeaps_26 n26) τ x_1 = some R → Fr [] [22, 23] τ R := by
        intro τ x_1 hf
        unfold fX0_fillHeaps_94 at hf
        have g : Fr [] [22, 23] τ τ := Fr.rf
        obtain ⟨x18, ex18, hf⟩ := ks_nm hf
        exact g.tr (ih26 _ _ hf)
      have L84 : ∀ (τ : Tau) (x_1 : Int32) (x_2 : Int32), fX0_fillHeaps_84 (fX0_fillHeaps_26 n26) τ x_1 x_2 = some R → Fr [] [22, 23] τ R := by
        intro τ x_1 x_2 hf
        unfold fX0_fillHeaps_84 at hf
        have g : Fr [] [22, 23] τ τ := Fr.rf
        obtain ⟨b15, hf⟩ := ks_ok hf
        obtain ⟨b16, hf⟩ := ks_ok hf
        obtain ⟨t17, et17, hf⟩ := ks_nm hf
        have g := g.tr (show Fr _ _ _ t17 by rw [et17]; exact Fr.sA (by decide))
        exact g.tr (L94 _ _ hf)
      intro τ x_1 hf
      rw [fX0_fillHeaps_26] at hf
      have g : Fr [] [22, 23] τ τ := Fr.rf
      by_cases c5 : tI τ 17 8 ≤ x_1
      · have hf := (if_pos c5).symm.trans hf
        replace hf := Option.some.inj hf
        subst hf
        exact g
      · have hf := (if_neg c5).symm.trans hf
        by_cases c6 : nI (tI τ 26 0).toNatClampNeg ≤ x_1
        · have hf := (if_pos c6).symm.trans hf
          replace hf := Option.some.inj hf
          subst hf
          exact g
        · have hf := (if_neg c6).symm.trans hf
          obtain ⟨b7, hf⟩ := ks_ok hf
          obtain ⟨x8, ex8, hf⟩ := ks_nm hf
          by_cases c9 : (1024 : Int32) ≤ x8
          · have hf := (if_pos c9).symm.trans hf
            exact g.tr (L94 _ _ hf)
          · have hf := (if_neg c9).symm.trans hf
            by_cases c10 : (1024 : Int32) ≤ x8
            · have hf := (if_pos c10).symm.trans hf
              exact g.tr (L94 _ _ hf)
            · have hf := (if_neg c10).symm.trans hf
              obtain ⟨b11, hf⟩ := ks_ok hf
              by_cases c12 : tA τ 22 x8.toNatClampNeg = 0
              · have hf := (if_pos c12).symm.trans hf
                obtain ⟨b13, hf⟩ := ks_ok hf
                obtain ⟨t14, et14, hf⟩ := ks_nm hf
                have g := g.tr (show Fr _ _ _ t14 by rw [et14]; exact Fr.sA (by decide))
                exact g.tr (L84 _ _ _ hf)
              · have hf := (if_neg c12).symm.trans hf
                exact g.tr (L84 _ _ _ hf)
  have L2 : ∀ (n2 : Nat) (τ : Tau) (x_1 : Int32), fX0_fillHeaps_2 n2 τ x_1 = some R → Fr [] [22, 23] τ R := by
    intro n2
    induction n2 with
    | zero => intro τ x_1 hf; exact absurd hf (by rw [fX0_fillHeaps_2]; simp)
    | succ n2 ih2 =>
      intro τ x_1 hf
      rw [fX0_fillHeaps_2] at hf
      have g : Fr [] [22, 23] τ τ := Fr.rf
      by_cases c1 : (1024 : Int32) ≤ x_1
      · have hf := (if_pos c1).symm.trans hf
        exact g.tr (L26 FU _ _ hf)
      · have hf := (if_neg c1).symm.trans hf
        obtain ⟨b2, hf⟩ := ks_ok hf
        obtain ⟨t3, et3, hf⟩ := ks_nm hf
        have g := g.tr (show Fr _ _ _ t3 by rw [et3]; exact Fr.sA (by decide))
        obtain ⟨x4, ex4, hf⟩ := ks_nm hf
        exact g.tr (ih2 _ _ hf)
  unfold fX0_fillHeaps at hf
  have g : Fr [] [22, 23] τ τ := Fr.rf
  exact g.tr (L2 FU _ _ hf)
set_option maxRecDepth 100000 in
theorem fr_X0_addTogether  (τ : Tau) (R : Tau) (hf : fX0_addTogether τ = some R) : Fr [] [24] τ R := by
  have L40 : ∀ (n40 : Nat) (τ : Tau) (x_1 : Int32), fX0_addTogether_40 n40 τ x_1 = some R → Fr [] [24] τ R := by
    intro n40
    induction n40 with
    | zero => intro τ x_1 hf; exact absurd hf (by rw [fX0_addTogether_40]; simp)
    | succ n40 ih40 =>
      have L49 : ∀ (n49 : Nat) (τ : Tau) (x_1 : Int32) (x_2 : Int32), fX0_addTogether_49 (fX0_addTogether_40 n40) n49 τ x_1 x_2 = some R → Fr [] [24] τ R := by
        intro n49
        induction n49 with
        | zero => intro τ x_1 x_2 hf; exact absurd hf (by rw [fX0_addTogether_49]; simp)
        | succ n49 ih49 =>
          have L91 : ∀ (τ : Tau) (x_1 : Int32) (x_2 : Int32), fX0_addTogether_91 (fX0_addTogether_40 n40) (fX0_addTogether_49 (fX0_addTogether_40 n40) n49) τ x_1 x_2 = some R → Fr [] [24] τ R := by
            intro τ x_1 x_2 hf
            unfold fX0_addTogether_91 at hf
            have g : Fr [] [24] τ τ := Fr.rf
            obtain ⟨x17, ex17, hf⟩ := ks_nm hf
            exact g.tr (ih49 _ _ _ hf)
          intro τ x_1 x_2 hf
          rw [fX0_addTogether_49] at hf
          have g : Fr [] [24] τ τ := Fr.rf
          by_cases c8 : (1024 : Int32) ≤ x_2
          · have hf := (if_pos c8).symm.trans hf
            obtain ⟨x9, ex9, hf⟩ := ks_nm hf
            exact g.tr (ih40 _ _ hf)
          · have hf := (if_neg c8).symm.trans hf
            obtain ⟨x10, ex10, hf⟩ := ks_nm hf
            by_cases c11 : x10 = x_2
            · have hf := (if_pos c11).symm.trans hf
              exact g.tr (L91 _ _ _ hf)
            · have hf := (if_neg c11).symm.trans hf
              by_cases c12 : (1024 : Int32) ≤ x10
              · have hf := (if_pos c12).symm.trans hf
                exact g.tr (L91 _ _ _ hf)
              · have hf := (if_neg c12).symm.trans hf
                obtain ⟨b13, hf⟩ := ks_ok hf
                obtain ⟨b14, hf⟩ := ks_ok hf
                obtain ⟨b15, hf⟩ := ks_ok hf
                obtain ⟨t16, et16, hf⟩ := ks_nm hf
                have g := g.tr (show Fr _ _ _ t16 by rw [et16]; exact Fr.sA (by decide))
                exact g.tr (L91 _ _ _ hf)
      intro τ x_1 hf
      rw [fX0_addTogether_40] at hf
      have g : Fr [] [24] τ τ := Fr.rf
      by_cases c7 : (1024 : Int32) ≤ x_1
      · have hf := (if_pos c7).symm.trans hf
        replace hf := Option.some.inj hf
        subst hf
        exact g
      · have hf := (if_neg c7).symm.trans hf
        exact g.tr (L49 FU _ _ _ hf)
  have L38 : ∀ (τ : Tau), fX0_addTogether_38 τ = some R → Fr [] [24] τ R := by
    intro τ hf
    unfold fX0_addTogether_38 at hf
    have g : Fr [] [24] τ τ := Fr.rf
    exact g.tr (L40 FU _ _ hf)
  have L2 : ∀ (n2 : Nat) (τ : Tau) (x_1 : Int32), fX0_addTogether_2 n2 τ x_1 = some R → Fr [] [24] τ R := by
    intro n2
    induction n2 with
    | zero => intro τ x_1 hf; exact absurd hf (by rw [fX0_addTogether_2]; simp)
    | succ n2 ih2 =>
      intro τ x_1 hf
      rw [fX0_addTogether_2] at hf
      have g : Fr [] [24] τ τ := Fr.rf
      by_cases c1 : (1024 : Int32) ≤ x_1
      · have hf := (if_pos c1).symm.trans hf
        exact g.tr (L38 _ hf)
      · have hf := (if_neg c1).symm.trans hf
        by_cases c2 : (1024 : Int32) ≤ x_1
        · have hf := (if_pos c2).symm.trans hf
          exact g.tr (L38 _ hf)
        · have hf := (if_neg c2).symm.trans hf
          obtain ⟨b3, hf⟩ := ks_ok hf
          obtain ⟨b4, hf⟩ := ks_ok hf
          obtain ⟨t5, et5, hf⟩ := ks_nm hf
          have g := g.tr (show Fr _ _ _ t5 by rw [et5]; exact Fr.sA (by decide))
          obtain ⟨x6, ex6, hf⟩ := ks_nm hf
          exact g.tr (ih2 _ _ hf)
  unfold fX0_addTogether at hf
  have g : Fr [] [24] τ τ := Fr.rf
  exact g.tr (L2 FU _ _ hf)
set_option maxRecDepth 100000 in
theorem fr_X0_factsOf  (τ : Tau) (p1 : Int32) (R : (Int64 × Tau)) (hf : fX0_factsOf τ p1 = some R) : Fr [(18, 3), (18, 4), (18, 5)] [19, 20, 21] τ R.2 := by
  have L106 : ∀ (τ : Tau) (x_2 : Int64) (x_4 : Int64), fX0_factsOf_106 p1 τ x_2 x_4 = some R → Fr [(18, 3), (18, 4), (18, 5)] [19, 20, 21] τ R.2 := by
    intro τ x_2 x_4 hf
    unfold fX0_factsOf_106 at hf
    have g : Fr [(18, 3), (18, 4), (18, 5)] [19, 20, 21] τ τ := Fr.rf
    obtain ⟨x13, ex13, hf⟩ := ks_nm hf
    obtain ⟨x14, ex14, hf⟩ := ks_nm hf
    replace hf := Option.some.inj hf
    subst hf
    exact g
  have L29 : ∀ (n29 : Nat) (τ : Tau) (x_2 : Int64) (x_4 : Int64) (x_6 : Int32) (x_7 : Int32), fX0_factsOf_29 p1 n29 τ x_2 x_4 x_6 x_7 = some R → Fr [(18, 3), (18, 4), (18, 5)] [19, 20, 21] τ R.2 := by
    intro n29
    induction n29 with
    | zero => intro τ x_2 x_4 x_6 x_7 hf; exact absurd hf (by rw [fX0_factsOf_29]; simp)
    | succ n29 ih29 =>
      have L91 : ∀ (τ : Tau) (x_2 : Int64) (x_4 : Int64) (x_7 : Int32), fX0_factsOf_91 p1 (fX0_factsOf_29 p1 n29) τ x_2 x_4 x_7 = some R → Fr [(18, 3), (18, 4), (18, 5)] [19, 20, 21] τ R.2 := by
        intro τ x_2 x_4 x_7 hf
        unfold fX0_factsOf_91 at hf
        have g : Fr [(18, 3), (18, 4), (18, 5)] [19, 20, 21] τ τ := Fr.rf
        obtain ⟨r10, er10, hf⟩ := ks_bind hf
        have g := g.tr ((fr_X5_advance _ _ er10).wk (by decide) (by decide))
        obtain ⟨x11, ex11, hf⟩ := ks_nm hf
        obtain ⟨x12, ex12, hf⟩ := ks_nm hf
        exact g.tr (ih29 _ _ _ _ _ hf)
      intro τ x_2 x_4 x_6 x_7 hf
      rw [fX0_factsOf_29] at hf
      have g : Fr [(18, 3), (18, 4), (18, 5)] [19, 20, 21] τ τ := Fr.rf
      by_cases c2 : tI τ 17 8 ≤ x_7
      · have hf := (if_pos c2).symm.trans hf
        exact g.tr (L106 _ _ _ hf)
      · have hf := (if_neg c2).symm.trans hf
        by_cases c3 : nI (tI τ 26 0).toNatClampNeg ≤ x_7
        · have hf := (if_pos c3).symm.trans hf
          exact g.tr (L106 _ _ _ hf)
        · have hf := (if_neg c3).symm.trans hf
          by_cases c4 : x_6 = 0
          · have hf := (if_pos c4).symm.trans hf
            exact g.tr (L106 _ _ _ hf)
          · have hf := (if_neg c4).symm.trans hf
            obtain ⟨b5, hf⟩ := ks_ok hf
            by_cases c6 : (tA τ 26 x_7.toNatClampNeg &&& p1) = p1
            · have hf := (if_pos c6).symm.trans hf
              obtain ⟨r7, er7, hf⟩ := ks_bind hf
              obtain ⟨x8, ex8, hf⟩ := ks_nm hf
              obtain ⟨x9, ex9, hf⟩ := ks_nm hf
              exact g.tr (L91 _ _ _ _ hf)
            · have hf := (if_neg c6).symm.trans hf
              exact g.tr (L91 _ _ _ _ hf)
  unfold fX0_factsOf at hf
  have g : Fr [(18, 3), (18, 4), (18, 5)] [19, 20, 21] τ τ := Fr.rf
  obtain ⟨r1, er1, hf⟩ := ks_bind hf
  have g := g.tr ((fr_X5_begin0 _ _ _ _ er1).wk (by decide) (by decide))
  exact g.tr (L29 FU _ _ _ _ _ hf)
set_option maxRecDepth 100000 in
theorem fr_X1_isShownOf  (τ : Tau) (p1 : Int32) (p2 : Int32) (R : (Bool × Tau)) (hf : fX1_isShownOf τ p1 p2 = R) : Fr [(27, 5), (27, 6)] [] τ R.2 := by
  have L26 : ∀ (τ : Tau) (z_0 : Int64) (z_1 : Int64), fX1_isShownOf_26 p1 p2 τ z_0 z_1 = R → Fr [(27, 5), (27, 6)] [] τ R.2 := by
    intro τ z_0 z_1 hf
    unfold fX1_isShownOf_26 at hf
    have g : Fr [(27, 5), (27, 6)] [] τ τ := Fr.rf
    obtain ⟨x3, ex3, hf⟩ := ks_nm hf
    by_cases c4 : lg_cmp (tL τ 27 2 &&& x3) x3 = 0
    · have hf := (if_pos c4).symm.trans hf
      obtain ⟨t5, et5, hf⟩ := ks_nm hf
      have g := g.tr (show Fr _ _ _ t5 by rw [et5]; exact Fr.sI (by decide))
      obtain ⟨t6, et6, hf⟩ := ks_nm hf
      have g := g.tr (show Fr _ _ _ t6 by rw [et6]; exact Fr.sI (by decide))
      subst hf
      exact g
    · have hf := (if_neg c4).symm.trans hf
      subst hf
      exact g
  have L13 : ∀ (τ : Tau) (z_0 : Int64), fX1_isShownOf_13 p1 p2 τ z_0 = R → Fr [(27, 5), (27, 6)] [] τ R.2 := by
    intro τ z_0 hf
    unfold fX1_isShownOf_13 at hf
    have g : Fr [(27, 5), (27, 6)] [] τ τ := Fr.rf
    by_cases c2 : p2 = (-9 : Int32)
    · have hf := (if_pos c2).symm.trans hf
      exact g.tr (L26 _ _ _ hf)
    · have hf := (if_neg c2).symm.trans hf
      exact g.tr (L26 _ _ _ hf)
  unfold fX1_isShownOf at hf
  have g : Fr [(27, 5), (27, 6)] [] τ τ := Fr.rf
  by_cases c1 : p1 = (-9 : Int32)
  · have hf := (if_pos c1).symm.trans hf
    exact g.tr (L13 _ _ hf)
  · have hf := (if_neg c1).symm.trans hf
    exact g.tr (L13 _ _ hf)
set_option maxRecDepth 100000 in
theorem fr_X1_isShowing  (τ : Tau) (p1 : Int32) (p2 : Int32) (p3 : Int32) (R : (Bool × Tau)) (hf : fX1_isShowing τ p1 p2 p3 = some R) : Fr [(27, 5), (27, 6)] [] τ R.2 := by
  have L129 : ∀ (n129 : Nat) (τ : Tau) (x_4 : Int32) (x_5 : Int32) (x_6 : Int32), fX1_isShowing_129 p1 p2 p3 n129 τ x_4 x_5 x_6 = some R → Fr [(27, 5), (27, 6)] [] τ R.2 := by
    intro n129
    induction n129 with
    | zero => intro τ x_4 x_5 x_6 hf; exact absurd hf (by rw [fX1_isShowing_129]; simp)
    | succ n129 ih129 =>
      have L173 : ∀ (τ : Tau) (x_4 : Int32) (x_5 : Int32) (x_6 : Int32) (x_7 : Int32) (z_0 : Int32), fX1_isShowing_173 p1 p2 p3 (fX1_isShowing_129 p1 p2 p3 n129) τ x_4 x_5 x_6 x_7 z_0 = some R → Fr [(27, 5), (27, 6)] [] τ R.2 := by
        intro τ x_4 x_5 x_6 x_7 z_0 hf
        unfold fX1_isShowing_173 at hf
        have g : Fr [(27, 5), (27, 6)] [] τ τ := Fr.rf
        obtain ⟨r20, er20, hf⟩ := ks_nm hf
        have g := g.tr ((fr_X1_isShownOf _ _ _ _ er20.symm).wk (by decide) (by decide))
        by_cases c21 : bI r20.1 = 0
        · have hf := (if_pos c21).symm.trans hf
          obtain ⟨x22, ex22, hf⟩ := ks_nm hf
          exact g.tr (ih129 _ _ _ _ hf)
        · have hf := (if_neg c21).symm.trans hf
          replace hf := Option.some.inj hf
          subst hf
          exact g
      intro τ x_4 x_5 x_6 hf
      rw [fX1_isShowing_129] at hf
      have g : Fr [(27, 5), (27, 6)] [] τ τ := Fr.rf
      by_cases c15 : tI τ 27 4 ≤ x_6
      · have hf := (if_pos c15).symm.trans hf
        replace hf := Option.some.inj hf
        subst hf
        exact g
      · have hf := (if_neg c15).symm.trans hf
        obtain ⟨r16, er16, hf⟩ := ks_nm hf
        by_cases c17 : p1 = (6 : Int32)
        · have hf := (if_pos c17).symm.trans hf
          obtain ⟨r19, er19, hf⟩ := ks_nm hf
          exact g.tr (L173 _ _ _ _ _ _ hf)
        · have hf := (if_neg c17).symm.trans hf
          obtain ⟨r18, er18, hf⟩ := ks_nm hf
          exact g.tr (L173 _ _ _ _ _ _ hf)
  have L126 : ∀ (τ : Tau) (x_4 : Int32) (x_5 : Int32), fX1_isShowing_126 p1 p2 p3 τ x_4 x_5 = some R → Fr [(27, 5), (27, 6)] [] τ R.2 := by
    intro τ x_4 x_5 hf
    unfold fX1_isShowing_126 at hf
    have g : Fr [(27, 5), (27, 6)] [] τ τ := Fr.rf
    exact g.tr (L129 FU _ _ _ _ hf)
  have L76 : ∀ (τ : Tau) (x_4 : Int32), fX1_isShowing_76 p1 p2 p3 τ x_4 = some R → Fr [(27, 5), (27, 6)] [] τ R.2 := by
    intro τ x_4 hf
    unfold fX1_isShowing_76 at hf
    have g : Fr [(27, 5), (27, 6)] [] τ τ := Fr.rf
    obtain ⟨r23, er23, hf⟩ := ks_nm hf
    obtain ⟨r24, er24, hf⟩ := ks_nm hf
    have g := g.tr ((fr_X1_isShownOf _ _ _ _ er24.symm).wk (by decide) (by decide))
    replace hf := Option.some.inj hf
    subst hf
    exact g
  have L38 : ∀ (τ : Tau) (x_4 : Int32) (z_0 : Int32), fX1_isShowing_38 p1 p2 p3 τ x_4 z_0 = some R → Fr [(27, 5), (27, 6)] [] τ R.2 := by
    intro τ x_4 z_0 hf
    unfold fX1_isShowing_38 at hf
    have g : Fr [(27, 5), (27, 6)] [] τ τ := Fr.rf
    by_cases c5 : p1 = (4 : Int32)
    · have hf := (if_pos c5).symm.trans hf
      exact g.tr (L76 _ _ hf)
    · have hf := (if_neg c5).symm.trans hf
      by_cases c6 : p1 = (5 : Int32)
      · have hf := (if_pos c6).symm.trans hf
        exact g.tr (L76 _ _ hf)
      · have hf := (if_neg c6).symm.trans hf
        by_cases c7 : p1 = (6 : Int32)
        · have hf := (if_pos c7).symm.trans hf
          exact g.tr (L126 _ _ _ hf)
        · have hf := (if_neg c7).symm.trans hf
          by_cases c8 : p1 = (7 : Int32)
          · have hf := (if_pos c8).symm.trans hf
            by_cases c10 : p2 = p3
            · have hf := (if_pos c10).symm.trans hf
              obtain ⟨r11, er11, hf⟩ := ks_nm hf
              have g := g.tr ((fr_X1_isShownOf _ _ _ _ er11.symm).wk (by decide) (by decide))
              by_cases c12 : bI r11.1 = 0
              · have hf := (if_pos c12).symm.trans hf
                replace hf := Option.some.inj hf
                subst hf
                exact g
              · have hf := (if_neg c12).symm.trans hf
                replace hf := Option.some.inj hf
                subst hf
                exact g
            · have hf := (if_neg c10).symm.trans hf
              replace hf := Option.some.inj hf
              subst hf
              exact g
          · have hf := (if_neg c8).symm.trans hf
            by_cases c9 : p1 = (8 : Int32)
            · have hf := (if_pos c9).symm.trans hf
              obtain ⟨r13, er13, hf⟩ := ks_nm hf
              obtain ⟨r14, er14, hf⟩ := ks_nm hf
              have g := g.tr ((fr_X1_isShownOf _ _ _ _ er14.symm).wk (by decide) (by decide))
              replace hf := Option.some.inj hf
              subst hf
              exact g
            · have hf := (if_neg c9).symm.trans hf
              exact g.tr (L126 _ _ _ hf)
  have L18 : ∀ (τ : Tau) (z_0 : Int32), fX1_isShowing_18 p1 p2 p3 τ z_0 = some R → Fr [(27, 5), (27, 6)] [] τ R.2 := by
    intro τ z_0 hf
    unfold fX1_isShowing_18 at hf
    have g : Fr [(27, 5), (27, 6)] [] τ τ := Fr.rf
    by_cases c3 : (9 : Int32) ≤ p1
    · have hf := (if_pos c3).symm.trans hf
      exact g.tr (L38 _ _ _ hf)
    · have hf := (if_neg c3).symm.trans hf
      obtain ⟨b4, hf⟩ := ks_ok hf
      exact g.tr (L38 _ _ _ hf)
  unfold fX1_isShowing at hf
  have g : Fr [(27, 5), (27, 6)] [] τ τ := Fr.rf
  by_cases c1 : (9 : Int32) ≤ p1
  · have hf := (if_pos c1).symm.trans hf
    exact g.tr (L18 _ _ hf)
  · have hf := (if_neg c1).symm.trans hf
    obtain ⟨b2, hf⟩ := ks_ok hf
    exact g.tr (L18 _ _ hf)
set_option maxRecDepth 100000 in
theorem fr_X1_leastMood  (τ : Tau) (p1 : Int32) (R : (Int32 × Tau)) (hf : fX1_leastMood τ p1 = some R) : Fr [(27, 5), (27, 6)] [] τ R.2 := by
  have L2 : ∀ (n2 : Nat) (τ : Tau) (x_2 : Int32), fX1_leastMood_2 p1 n2 τ x_2 = some R → Fr [(27, 5), (27, 6)] [] τ R.2 := by
    intro n2
    induction n2 with
    | zero => intro τ x_2 hf; exact absurd hf (by rw [fX1_leastMood_2]; simp)
    | succ n2 ih2 =>
      have L66 : ∀ (τ : Tau) (x_2 : Int32), fX1_leastMood_66 p1 (fX1_leastMood_2 p1 n2) τ x_2 = some R → Fr [(27, 5), (27, 6)] [] τ R.2 := by
        intro τ x_2 hf
        unfold fX1_leastMood_66 at hf
        have g : Fr [(27, 5), (27, 6)] [] τ τ := Fr.rf
        obtain ⟨x10, ex10, hf⟩ := ks_nm hf
        exact g.tr (ih2 _ _ hf)
      have L43 : ∀ (τ : Tau) (x_2 : Int32) (z_0 : Int32), fX1_leastMood_43 p1 (fX1_leastMood_2 p1 n2) τ x_2 z_0 = some R → Fr [(27, 5), (27, 6)] [] τ R.2 := by
        intro τ x_2 z_0 hf
        unfold fX1_leastMood_43 at hf
        have g : Fr [(27, 5), (27, 6)] [] τ τ := Fr.rf
        by_cases c7 : z_0 = 0
        · have hf := (if_pos c7).symm.trans hf
          exact g.tr (L66 _ _ hf)
        · have hf := (if_neg c7).symm.trans hf
          obtain ⟨r8, er8, hf⟩ := ks_bind hf
          have g := g.tr ((fr_X1_isShowing _ _ _ _ _ er8).wk (by decide) (by decide))
          by_cases c9 : bI r8.1 = 0
          · have hf := (if_pos c9).symm.trans hf
            exact g.tr (L66 _ _ hf)
          · have hf := (if_neg c9).symm.trans hf
            replace hf := Option.some.inj hf
            subst hf
            exact g
      have L42 : ∀ (τ : Tau) (x_2 : Int32), fX1_leastMood_42 p1 (fX1_leastMood_2 p1 n2) τ x_2 = some R → Fr [(27, 5), (27, 6)] [] τ R.2 := by
        intro τ x_2 hf
        unfold fX1_leastMood_42 at hf
        have g : Fr [(27, 5), (27, 6)] [] τ τ := Fr.rf
        exact g.tr (L43 _ _ _ hf)
      intro τ x_2 hf
      rw [fX1_leastMood_2] at hf
      have g : Fr [(27, 5), (27, 6)] [] τ τ := Fr.rf
      by_cases c1 : (9 : Int32) ≤ x_2
      · have hf := (if_pos c1).symm.trans hf
        replace hf := Option.some.inj hf
        subst hf
        exact g
      · have hf := (if_neg c1).symm.trans hf
        by_cases c2 : (9 : Int32) ≤ x_2
        · have hf := (if_pos c2).symm.trans hf
          replace hf := Option.some.inj hf
          subst hf
          exact g
        · have hf := (if_neg c2).symm.trans hf
          obtain ⟨r3, er3, hf⟩ := ks_nm hf
          by_cases c4 : bI r3 = 0
          · have hf := (if_pos c4).symm.trans hf
            exact g.tr (L42 _ _ hf)
          · have hf := (if_neg c4).symm.trans hf
            obtain ⟨b5, hf⟩ := ks_ok hf
            by_cases c6 : vSHOWS x_2.toNatClampNeg = (p1 >>> ((4 : Int32) &&& 31))
            · have hf := (if_pos c6).symm.trans hf
              exact g.tr (L43 _ _ _ hf)
            · have hf := (if_neg c6).symm.trans hf
              exact g.tr (L42 _ _ hf)
  unfold fX1_leastMood at hf
  have g : Fr [(27, 5), (27, 6)] [] τ τ := Fr.rf
  exact g.tr (L2 FU _ _ hf)
set_option maxRecDepth 100000 in
theorem fr_X1_isAnyComing  (τ : Tau) (p1 : Int32) (R : (Bool × Tau)) (hf : fX1_isAnyComing τ p1 = some R) : Fr [(27, 5), (27, 6)] [28] τ R.2 := by
  have L4 : ∀ (n4 : Nat) (τ : Tau) (x_2 : Int32) (x_3 : Int32), fX1_isAnyComing_4 p1 n4 τ x_2 x_3 = some R → Fr [(27, 5), (27, 6)] [28] τ R.2 := by
    intro n4
    induction n4 with
    | zero => intro τ x_2 x_3 hf; exact absurd hf (by rw [fX1_isAnyComing_4]; simp)
    | succ n4 ih4 =>
      have L51 : ∀ (τ : Tau) (x_2 : Int32) (x_3 : Int32), fX1_isAnyComing_51 p1 (fX1_isAnyComing_4 p1 n4) τ x_2 x_3 = some R → Fr [(27, 5), (27, 6)] [28] τ R.2 := by
        intro τ x_2 x_3 hf
        unfold fX1_isAnyComing_51 at hf
        have g : Fr [(27, 5), (27, 6)] [28] τ τ := Fr.rf
        obtain ⟨x11, ex11, hf⟩ := ks_nm hf
        exact g.tr (ih4 _ _ _ hf)
      intro τ x_2 x_3 hf
      rw [fX1_isAnyComing_4] at hf
      have g : Fr [(27, 5), (27, 6)] [28] τ τ := Fr.rf
      by_cases c1 : (64 : Int32) ≤ x_3
      · have hf := (if_pos c1).symm.trans hf
        obtain ⟨b2, hf⟩ := ks_need hf
        replace hf := Option.some.inj hf
        subst hf
        exact g
      · have hf := (if_neg c1).symm.trans hf
        obtain ⟨r3, er3, hf⟩ := ks_nm hf
        by_cases c4 : bI r3 = 0
        · have hf := (if_pos c4).symm.trans hf
          exact g.tr (L51 _ _ _ hf)
        · have hf := (if_neg c4).symm.trans hf
          obtain ⟨b5, hf⟩ := ks_ok hf
          by_cases c6 : tA τ 28 x_3.toNatClampNeg = (-9 : Int32)
          · have hf := (if_pos c6).symm.trans hf
            obtain ⟨r7, er7, hf⟩ := ks_bind hf
            have g := g.tr ((fr_X1_leastMood _ _ _ er7).wk (by decide) (by decide))
            by_cases c8 : r7.1 = (-9 : Int32)
            · have hf := (if_pos c8).symm.trans hf
              exact g.tr (L51 _ _ _ hf)
            · have hf := (if_neg c8).symm.trans hf
              obtain ⟨b9, hf⟩ := ks_ok hf
              obtain ⟨t10, et10, hf⟩ := ks_nm hf
              have g := g.tr (show Fr _ _ _ t10 by rw [et10]; exact Fr.sA (by decide))
              exact g.tr (L51 _ _ _ hf)
          · have hf := (if_neg c6).symm.trans hf
            exact g.tr (L51 _ _ _ hf)
  unfold fX1_isAnyComing at hf
  have g : Fr [(27, 5), (27, 6)] [28] τ τ := Fr.rf
  exact g.tr (L4 FU _ _ _ hf)
set_option maxRecDepth 100000 in
theorem fr_X1_work  (τ : Tau) (p1 : Int64) (p2 : Int32) (p3 : Int32) (R : Tau) (hf : fX1_work τ p1 p2 p3 = some R) : Fr [(27, 1), (27, 2), (27, 3), (27, 4), (27, 5), (27, 6), (27, 7)] [28] τ R := by
  have L101 : ∀ (n101 : Nat) (τ : Tau) (x_5 : Int32) (x_6 : Int32), fX1_work_101 p1 p2 p3 n101 τ x_5 x_6 = some R → Fr [(27, 1), (27, 2), (27, 3), (27, 4), (27, 5), (27, 6), (27, 7)] [28] τ R := by
    intro n101
    induction n101 with
    | zero => intro τ x_5 x_6 hf; exact absurd hf (by rw [fX1_work_101]; simp)
    | succ n101 ih101 =>
      have L142 : ∀ (τ : Tau) (x_5 : Int32) (x_6 : Int32), fX1_work_142 p1 p2 p3 (fX1_work_101 p1 p2 p3 n101) τ x_5 x_6 = some R → Fr [(27, 1), (27, 2), (27, 3), (27, 4), (27, 5), (27, 6), (27, 7)] [28] τ R := by
        intro τ x_5 x_6 hf
        unfold fX1_work_142 at hf
        have g : Fr [(27, 1), (27, 2), (27, 3), (27, 4), (27, 5), (27, 6), (27, 7)] [28] τ τ := Fr.rf
        obtain ⟨x24, ex24, hf⟩ := ks_nm hf
        exact g.tr (ih101 _ _ _ hf)
      intro τ x_5 x_6 hf
      rw [fX1_work_101] at hf
      have g : Fr [(27, 1), (27, 2), (27, 3), (27, 4), (27, 5), (27, 6), (27, 7)] [28] τ τ := Fr.rf
      by_cases c16 : (64 : Int32) < x_6
      · have hf := (if_pos c16).symm.trans hf
        replace hf := Option.some.inj hf
        subst hf
        exact g
      · have hf := (if_neg c16).symm.trans hf
        by_cases c17 : x_5 = 0
        · have hf := (if_pos c17).symm.trans hf
          replace hf := Option.some.inj hf
          subst hf
          exact g
        · have hf := (if_neg c17).symm.trans hf
          obtain ⟨r18, er18, hf⟩ := ks_bind hf
          obtain ⟨t19, et19, hf⟩ := ks_nm hf
          have g := g.tr (show Fr _ _ _ t19 by rw [et19]; exact Fr.sL (by decide))
          obtain ⟨r20, er20, hf⟩ := ks_bind hf
          have g := g.tr ((fr_X1_isAnyComing _ _ _ er20).wk (by decide) (by decide))
          obtain ⟨x21, ex21, hf⟩ := ks_nm hf
          by_cases c22 : x21 = 0
          · have hf := (if_pos c22).symm.trans hf
            exact g.tr (L142 _ _ _ hf)
          · have hf := (if_neg c22).symm.trans hf
            obtain ⟨t23, et23, hf⟩ := ks_nm hf
            have g := g.tr (show Fr _ _ _ t23 by rw [et23]; exact Fr.sI (by decide))
            exact g.tr (L142 _ _ _ hf)
  have L24 : ∀ (n24 : Nat) (τ : Tau) (x_5 : Int32), fX1_work_24 p1 p2 p3 n24 τ x_5 = some R → Fr [(27, 1), (27, 2), (27, 3), (27, 4), (27, 5), (27, 6), (27, 7)] [28] τ R := by
    intro n24
    induction n24 with
    | zero => intro τ x_5 hf; exact absurd hf (by rw [fX1_work_24]; simp)
    | succ n24 ih24 =>
      have L88 : ∀ (τ : Tau) (x_5 : Int32) (z_0 : Int32) (z_1 : Int32), fX1_work_88 p1 p2 p3 (fX1_work_24 p1 p2 p3 n24) τ x_5 z_0 z_1 = some R → Fr [(27, 1), (27, 2), (27, 3), (27, 4), (27, 5), (27, 6), (27, 7)] [28] τ R := by
        intro τ x_5 z_0 z_1 hf
        unfold fX1_work_88 at hf
        have g : Fr [(27, 1), (27, 2), (27, 3), (27, 4), (27, 5), (27, 6), (27, 7)] [28] τ τ := Fr.rf
        obtain ⟨b13, hf⟩ := ks_ok hf
        obtain ⟨t14, et14, hf⟩ := ks_nm hf
        have g := g.tr (show Fr _ _ _ t14 by rw [et14]; exact Fr.sA (by decide))
        obtain ⟨x15, ex15, hf⟩ := ks_nm hf
        exact g.tr (ih24 _ _ hf)
      have L82 : ∀ (τ : Tau) (x_5 : Int32) (z_0 : Int32), fX1_work_82 p1 p2 p3 (fX1_work_24 p1 p2 p3 n24) τ x_5 z_0 = some R → Fr [(27, 1), (27, 2), (27, 3), (27, 4), (27, 5), (27, 6), (27, 7)] [28] τ R := by
        intro τ x_5 z_0 hf
        unfold fX1_work_82 at hf
        have g : Fr [(27, 1), (27, 2), (27, 3), (27, 4), (27, 5), (27, 6), (27, 7)] [28] τ τ := Fr.rf
        exact g.tr (L88 _ _ _ _ hf)
      have L60 : ∀ (τ : Tau) (x_5 : Int32) (z_0 : Int32), fX1_work_60 p1 p2 p3 (fX1_work_24 p1 p2 p3 n24) τ x_5 z_0 = some R → Fr [(27, 1), (27, 2), (27, 3), (27, 4), (27, 5), (27, 6), (27, 7)] [28] τ R := by
        intro τ x_5 z_0 hf
        unfold fX1_work_60 at hf
        have g : Fr [(27, 1), (27, 2), (27, 3), (27, 4), (27, 5), (27, 6), (27, 7)] [28] τ τ := Fr.rf
        by_cases c10 : z_0 = 0
        · have hf := (if_pos c10).symm.trans hf
          obtain ⟨r11, er11, hf⟩ := ks_nm hf
          by_cases c12 : bI r11 = 0
          · have hf := (if_pos c12).symm.trans hf
            exact g.tr (L88 _ _ _ _ hf)
          · have hf := (if_neg c12).symm.trans hf
            exact g.tr (L82 _ _ _ hf)
        · have hf := (if_neg c10).symm.trans hf
          exact g.tr (L82 _ _ _ hf)
      have L59 : ∀ (τ : Tau) (x_5 : Int32), fX1_work_59 p1 p2 p3 (fX1_work_24 p1 p2 p3 n24) τ x_5 = some R → Fr [(27, 1), (27, 2), (27, 3), (27, 4), (27, 5), (27, 6), (27, 7)] [28] τ R := by
        intro τ x_5 hf
        unfold fX1_work_59 at hf
        have g : Fr [(27, 1), (27, 2), (27, 3), (27, 4), (27, 5), (27, 6), (27, 7)] [28] τ τ := Fr.rf
        exact g.tr (L60 _ _ _ hf)
      intro τ x_5 hf
      rw [fX1_work_24] at hf
      have g : Fr [(27, 1), (27, 2), (27, 3), (27, 4), (27, 5), (27, 6), (27, 7)] [28] τ τ := Fr.rf
      by_cases c5 : (64 : Int32) ≤ x_5
      · have hf := (if_pos c5).symm.trans hf
        exact g.tr (L101 FU _ _ _ hf)
      · have hf := (if_neg c5).symm.trans hf
        obtain ⟨r6, er6, hf⟩ := ks_nm hf
        by_cases c7 : bI r6 = 0
        · have hf := (if_pos c7).symm.trans hf
          exact g.tr (L59 _ _ hf)
        · have hf := (if_neg c7).symm.trans hf
          obtain ⟨r8, er8, hf⟩ := ks_nm hf
          by_cases c9 : bI r8 = 0
          · have hf := (if_pos c9).symm.trans hf
            exact g.tr (L59 _ _ hf)
          · have hf := (if_neg c9).symm.trans hf
            exact g.tr (L60 _ _ _ hf)
  unfold fX1_work at hf
  have g : Fr [(27, 1), (27, 2), (27, 3), (27, 4), (27, 5), (27, 6), (27, 7)] [28] τ τ := Fr.rf
  obtain ⟨t1, et1, hf⟩ := ks_nm hf
  have g := g.tr (show Fr _ _ _ t1 by rw [et1]; exact Fr.sL (by decide))
  obtain ⟨t2, et2, hf⟩ := ks_nm hf
  have g := g.tr (show Fr _ _ _ t2 by rw [et2]; exact Fr.sI (by decide))
  obtain ⟨t3, et3, hf⟩ := ks_nm hf
  have g := g.tr (show Fr _ _ _ t3 by rw [et3]; exact Fr.sI (by decide))
  obtain ⟨t4, et4, hf⟩ := ks_nm hf
  have g := g.tr (show Fr _ _ _ t4 by rw [et4]; exact Fr.sI (by decide))
  exact g.tr (L24 FU _ _ hf)
set_option maxRecDepth 100000 in
theorem fr_X1_step  (τ : Tau) (p1 : Int32) (p2 : Int32) (R : (Int32 × Tau)) (hf : fX1_step τ p1 p2 = some R) : Fr [(27, 2), (27, 5), (27, 6)] [] τ R.2 := by
  unfold fX1_step at hf
  have g : Fr [(27, 2), (27, 5), (27, 6)] [] τ τ := Fr.rf
  obtain ⟨r1, er1, hf⟩ := ks_bind hf
  by_cases c2 : r1 = (-9 : Int32)
  · have hf := (if_pos c2).symm.trans hf
    replace hf := Option.some.inj hf
    subst hf
    exact g
  · have hf := (if_neg c2).symm.trans hf
    obtain ⟨r3, er3, hf⟩ := ks_nm hf
    by_cases c4 : bI r3 = 0
    · have hf := (if_pos c4).symm.trans hf
      obtain ⟨r5, er5, hf⟩ := ks_bind hf
      obtain ⟨t6, et6, hf⟩ := ks_nm hf
      have g := g.tr (show Fr _ _ _ t6 by rw [et6]; exact Fr.sL (by decide))
      obtain ⟨r7, er7, hf⟩ := ks_bind hf
      have g := g.tr ((fr_X1_leastMood _ _ _ er7).wk (by decide) (by decide))
      by_cases c8 : p2 = 0
      · have hf := (if_pos c8).symm.trans hf
        replace hf := Option.some.inj hf
        subst hf
        exact g
      · have hf := (if_neg c8).symm.trans hf
        by_cases c9 : r7.1 = (-9 : Int32)
        · have hf := (if_pos c9).symm.trans hf
          replace hf := Option.some.inj hf
          subst hf
          exact g
        · have hf := (if_neg c9).symm.trans hf
          by_cases c10 : p2 = (1 : Int32)
          · have hf := (if_pos c10).symm.trans hf
            replace hf := Option.some.inj hf
            subst hf
            exact g
          · have hf := (if_neg c10).symm.trans hf
            replace hf := Option.some.inj hf
            subst hf
            exact g
    · have hf := (if_neg c4).symm.trans hf
      replace hf := Option.some.inj hf
      subst hf
      exact g
set_option maxRecDepth 100000 in
theorem fr_X6_work  (τ : Tau) (p1 : Int32) (R : Tau) (hf : fX6_work τ p1 = some R) : Fr [(27, 1), (27, 2), (27, 3), (27, 4), (27, 5), (27, 6), (27, 7)] [28] τ R := by
  have L5 : ∀ (n5 : Nat) (τ : Tau) (x_2 : Int64) (x_4 : Int32), fX6_work_5 p1 n5 τ x_2 x_4 = some R → Fr [(27, 1), (27, 2), (27, 3), (27, 4), (27, 5), (27, 6), (27, 7)] [28] τ R := by
    intro n5
    induction n5 with
    | zero => intro τ x_2 x_4 hf; exact absurd hf (by rw [fX6_work_5]; simp)
    | succ n5 ih5 =>
      have L58 : ∀ (τ : Tau) (x_2 : Int64) (x_4 : Int32), fX6_work_58 p1 (fX6_work_5 p1 n5) τ x_2 x_4 = some R → Fr [(27, 1), (27, 2), (27, 3), (27, 4), (27, 5), (27, 6), (27, 7)] [28] τ R := by
        intro τ x_2 x_4 hf
        unfold fX6_work_58 at hf
        have g : Fr [(27, 1), (27, 2), (27, 3), (27, 4), (27, 5), (27, 6), (27, 7)] [28] τ τ := Fr.rf
        obtain ⟨x8, ex8, hf⟩ := ks_nm hf
        exact g.tr (ih5 _ _ _ hf)
      intro τ x_2 x_4 hf
      rw [fX6_work_5] at hf
      have g : Fr [(27, 1), (27, 2), (27, 3), (27, 4), (27, 5), (27, 6), (27, 7)] [28] τ τ := Fr.rf
      by_cases c1 : (10 : Int32) ≤ x_4
      · have hf := (if_pos c1).symm.trans hf
        obtain ⟨r2, er2, hf⟩ := ks_bind hf
        have g := g.tr ((fr_X1_work _ _ _ _ _ er2).wk (by decide) (by decide))
        replace hf := Option.some.inj hf
        subst hf
        exact g
      · have hf := (if_neg c1).symm.trans hf
        obtain ⟨b3, hf⟩ := ks_ok hf
        obtain ⟨r4, er4, hf⟩ := ks_nm hf
        by_cases c5 : bI r4 = 0
        · have hf := (if_pos c5).symm.trans hf
          exact g.tr (L58 _ _ _ hf)
        · have hf := (if_neg c5).symm.trans hf
          by_cases c6 : tI τ (x_4.toNatClampNeg + 2) 4 = (-9 : Int32)
          · have hf := (if_pos c6).symm.trans hf
            exact g.tr (L58 _ _ _ hf)
          · have hf := (if_neg c6).symm.trans hf
            obtain ⟨x7, ex7, hf⟩ := ks_nm hf
            exact g.tr (L58 _ _ _ hf)
  unfold fX6_work at hf
  have g : Fr [(27, 1), (27, 2), (27, 3), (27, 4), (27, 5), (27, 6), (27, 7)] [28] τ τ := Fr.rf
  exact g.tr (L5 FU _ _ _ hf)
set_option maxRecDepth 100000 in
theorem fr_X6_most  (τ : Tau) (p1 : Int32) (R : (Int32 × Tau)) (hf : fX6_most τ p1 = some R) : Fr [(0, 6), (17, 6), (17, 7), (17, 8), (17, 9)] [] τ R.2 := by
  unfold fX6_most at hf
  have g : Fr [(0, 6), (17, 6), (17, 7), (17, 8), (17, 9)] [] τ τ := Fr.rf
  by_cases c1 : p1 < (1 : Int32)
  · have hf := (if_pos c1).symm.trans hf
    replace hf := Option.some.inj hf
    subst hf
    exact g
  · have hf := (if_neg c1).symm.trans hf
    by_cases c2 : p1 ≤ (6 : Int32)
    · have hf := (if_pos c2).symm.trans hf
      obtain ⟨x3, ex3, hf⟩ := ks_nm hf
      obtain ⟨t4, et4, hf⟩ := ks_nm hf
      have g := g.tr (show Fr _ _ _ t4 by rw [et4]; exact Fr.sI (by decide))
      obtain ⟨r5, er5, hf⟩ := ks_nm hf
      obtain ⟨r6, er6, hf⟩ := ks_bind hf
      have g := g.tr ((fr_X0_shape _ _ _ _ er6).wk (by decide) (by decide))
      replace hf := Option.some.inj hf
      subst hf
      exact g
    · have hf := (if_neg c2).symm.trans hf
      replace hf := Option.some.inj hf
      subst hf
      exact g
set_option maxRecDepth 100000 in
theorem fr_X6_put  (τ : Tau) (p1 : Int32) (p2 : Int32) (R : (Int32 × Tau)) (hf : fX6_put τ p1 p2 = some R) : Fr [] [12] τ R.2 := by
  unfold fX6_put at hf
  have g : Fr [] [12] τ τ := Fr.rf
  obtain ⟨r1, er1, hf⟩ := ks_nm hf
  by_cases c2 : bI r1 = 0
  · have hf := (if_pos c2).symm.trans hf
    replace hf := Option.some.inj hf
    subst hf
    exact g
  · have hf := (if_neg c2).symm.trans hf
    by_cases c3 : p2 < 0
    · have hf := (if_pos c3).symm.trans hf
      replace hf := Option.some.inj hf
      subst hf
      exact g
    · have hf := (if_neg c3).symm.trans hf
      by_cases c4 : p2 ≤ (6 : Int32)
      · have hf := (if_pos c4).symm.trans hf
        obtain ⟨b5, hf⟩ := ks_ok hf
        obtain ⟨x6, ex6, hf⟩ := ks_nm hf
        obtain ⟨r7, er7, hf⟩ := ks_bind hf
        by_cases c8 : ((r7 - x6) + p2) ≤ (6 : Int32)
        · have hf := (if_pos c8).symm.trans hf
          obtain ⟨b9, hf⟩ := ks_ok hf
          obtain ⟨t10, et10, hf⟩ := ks_nm hf
          have g := g.tr (show Fr _ _ _ t10 by rw [et10]; exact Fr.sA (by decide))
          replace hf := Option.some.inj hf
          subst hf
          exact g
        · have hf := (if_neg c8).symm.trans hf
          replace hf := Option.some.inj hf
          subst hf
          exact g
      · have hf := (if_neg c4).symm.trans hf
        replace hf := Option.some.inj hf
        subst hf
        exact g
set_option maxRecDepth 100000 in
theorem fr_X6_type  (τ : Tau) (p1 : Int64) (p2 : Int32) (R : (Int32 × Tau)) (hf : fX6_type τ p1 p2 = some R) : Fr [(14, 1)] [15] τ R.2 := by
  unfold fX6_type at hf
  have g : Fr [(14, 1)] [15] τ τ := Fr.rf
  by_cases c1 : p2 < (1 : Int32)
  · have hf := (if_pos c1).symm.trans hf
    replace hf := Option.some.inj hf
    subst hf
    exact g
  · have hf := (if_neg c1).symm.trans hf
    by_cases c2 : p2 ≤ (8 : Int32)
    · have hf := (if_pos c2).symm.trans hf
      by_cases c3 : (tI τ 14 1 + p2) ≤ (80 : Int32)
      · have hf := (if_pos c3).symm.trans hf
        obtain ⟨r4, er4, hf⟩ := ks_bind hf
        have g := g.tr ((fr_X4_append _ _ _ _ er4).wk (by decide) (by decide))
        replace hf := Option.some.inj hf
        subst hf
        exact g
      · have hf := (if_neg c3).symm.trans hf
        replace hf := Option.some.inj hf
        subst hf
        exact g
    · have hf := (if_neg c2).symm.trans hf
      replace hf := Option.some.inj hf
      subst hf
      exact g
set_option maxRecDepth 100000 in
theorem fr_X6_clear  (τ : Tau) (R : (Int32 × Tau)) (hf : fX6_clear τ = R) : Fr [(14, 1)] [] τ R.2 := by
  unfold fX6_clear at hf
  have g : Fr [(14, 1)] [] τ τ := Fr.rf
  obtain ⟨x1, ex1, hf⟩ := ks_nm hf
  obtain ⟨t2, et2, hf⟩ := ks_nm hf
  have g := g.tr (show Fr _ _ _ t2 by rw [et2]; exact Fr.sI (by decide))
  subst hf
  exact g
set_option maxRecDepth 100000 in
theorem fr_X6_moods  (τ : Tau) (p1 : Int32) (R : (Int32 × Tau)) (hf : fX6_moods τ p1 = R) : Fr [(0, 7)] [] τ R.2 := by
  unfold fX6_moods at hf
  have g : Fr [(0, 7)] [] τ τ := Fr.rf
  by_cases c1 : p1 < 0
  · have hf := (if_pos c1).symm.trans hf
    subst hf
    exact g
  · have hf := (if_neg c1).symm.trans hf
    by_cases c2 : p1 < (512 : Int32)
    · have hf := (if_pos c2).symm.trans hf
      obtain ⟨x3, ex3, hf⟩ := ks_nm hf
      obtain ⟨t4, et4, hf⟩ := ks_nm hf
      have g := g.tr (show Fr _ _ _ t4 by rw [et4]; exact Fr.sI (by decide))
      subst hf
      exact g
    · have hf := (if_neg c2).symm.trans hf
      subst hf
      exact g
set_option maxRecDepth 100000 in
theorem fr_X6_round  (τ : Tau) (p1 : Int32) (p2 : Int32) (p3 : Int32) (p4 : Int32) (R : (Int32 × Tau)) (hf : fX6_round τ p1 p2 p3 p4 = some R) : Fr [(27, 1), (27, 2), (27, 3), (27, 4), (27, 5), (27, 6), (27, 7)] [28] τ R.2 := by
  unfold fX6_round at hf
  have g : Fr [(27, 1), (27, 2), (27, 3), (27, 4), (27, 5), (27, 6), (27, 7)] [28] τ τ := Fr.rf
  obtain ⟨r1, er1, hf⟩ := ks_nm hf
  by_cases c2 : bI r1 = 0
  · have hf := (if_pos c2).symm.trans hf
    replace hf := Option.some.inj hf
    subst hf
    exact g
  · have hf := (if_neg c2).symm.trans hf
    obtain ⟨r3, er3, hf⟩ := ks_nm hf
    by_cases c4 : bI r3 = 0
    · have hf := (if_pos c4).symm.trans hf
      replace hf := Option.some.inj hf
      subst hf
      exact g
    · have hf := (if_neg c4).symm.trans hf
      obtain ⟨r5, er5, hf⟩ := ks_bind hf
      have g := g.tr ((fr_X6_work _ _ _ er5).wk (by decide) (by decide))
      obtain ⟨r6, er6, hf⟩ := ks_nm hf
      obtain ⟨r7, er7, hf⟩ := ks_bind hf
      replace hf := Option.some.inj hf
      subst hf
      exact g
set_option maxRecDepth 100000 in
theorem fr_X6_by  (τ : Tau) (p1 : Int32) (p2 : Int32) (p3 : Int32) (p4 : Int32) (p5 : Int32) (R : (Int32 × Tau)) (hf : fX6_by τ p1 p2 p3 p4 p5 = some R) : Fr [(27, 1), (27, 2), (27, 3), (27, 4), (27, 5), (27, 6), (27, 7)] [28] τ R.2 := by
  unfold fX6_by at hf
  have g : Fr [(27, 1), (27, 2), (27, 3), (27, 4), (27, 5), (27, 6), (27, 7)] [28] τ τ := Fr.rf
  obtain ⟨r1, er1, hf⟩ := ks_nm hf
  by_cases c2 : bI r1 = 0
  · have hf := (if_pos c2).symm.trans hf
    replace hf := Option.some.inj hf
    subst hf
    exact g
  · have hf := (if_neg c2).symm.trans hf
    obtain ⟨r3, er3, hf⟩ := ks_nm hf
    by_cases c4 : bI r3 = 0
    · have hf := (if_pos c4).symm.trans hf
      replace hf := Option.some.inj hf
      subst hf
      exact g
    · have hf := (if_neg c4).symm.trans hf
      by_cases c5 : p5 < 0
      · have hf := (if_pos c5).symm.trans hf
        replace hf := Option.some.inj hf
        subst hf
        exact g
      · have hf := (if_neg c5).symm.trans hf
        by_cases c6 : p5 ≤ (2 : Int32)
        · have hf := (if_pos c6).symm.trans hf
          obtain ⟨r7, er7, hf⟩ := ks_bind hf
          have g := g.tr ((fr_X6_work _ _ _ er7).wk (by decide) (by decide))
          obtain ⟨r8, er8, hf⟩ := ks_nm hf
          obtain ⟨r9, er9, hf⟩ := ks_bind hf
          have g := g.tr ((fr_X1_step _ _ _ _ er9).wk (by decide) (by decide))
          replace hf := Option.some.inj hf
          subst hf
          exact g
        · have hf := (if_neg c6).symm.trans hf
          replace hf := Option.some.inj hf
          subst hf
          exact g
set_option maxRecDepth 100000 in
theorem fr_X2_fail  (τ : Tau) (R : Tau) (hf : fX2_fail τ = R) : Fr [(13, 4)] [] τ R := by
  unfold fX2_fail at hf
  have g : Fr [(13, 4)] [] τ τ := Fr.rf
  by_cases c1 : tI τ 13 4 = (-1 : Int32)
  · have hf := (if_pos c1).symm.trans hf
    obtain ⟨t2, et2, hf⟩ := ks_nm hf
    have g := g.tr (show Fr _ _ _ t2 by rw [et2]; exact Fr.sI (by decide))
    subst hf
    exact g
  · have hf := (if_neg c1).symm.trans hf
    subst hf
    exact g
set_option maxRecDepth 100000 in
theorem fr_X2_pass  (τ : Tau) (p1 : Int32) (R : Tau) (hf : fX2_pass τ p1 = some R) : Fr [(13, 4), (14, 2), (14, 3), (14, 4), (14, 5), (14, 6)] [] τ R := by
  have L15 : ∀ (τ : Tau), fX2_pass_15 p1 τ = some R → Fr [(13, 4), (14, 2), (14, 3), (14, 4), (14, 5), (14, 6)] [] τ R := by
    intro τ hf
    unfold fX2_pass_15 at hf
    have g : Fr [(13, 4), (14, 2), (14, 3), (14, 4), (14, 5), (14, 6)] [] τ τ := Fr.rf
    by_cases c3 : tI τ 13 4 = (-1 : Int32)
    · have hf := (if_pos c3).symm.trans hf
      obtain ⟨r4, er4, hf⟩ := ks_bind hf
      have g := g.tr ((fr_X4_advance _ _ er4).wk (by decide) (by decide))
      replace hf := Option.some.inj hf
      subst hf
      exact g
    · have hf := (if_neg c3).symm.trans hf
      replace hf := Option.some.inj hf
      subst hf
      exact g
  unfold fX2_pass at hf
  have g : Fr [(13, 4), (14, 2), (14, 3), (14, 4), (14, 5), (14, 6)] [] τ τ := Fr.rf
  by_cases c1 : tI τ 14 2 = p1
  · have hf := (if_pos c1).symm.trans hf
    exact g.tr (L15 _ hf)
  · have hf := (if_neg c1).symm.trans hf
    obtain ⟨r2, er2, hf⟩ := ks_nm hf
    have g := g.tr ((fr_X2_fail _ _ er2.symm).wk (by decide) (by decide))
    exact g.tr (L15 _ hf)
set_option maxRecDepth 100000 in
theorem fr_X2_readNumber  (τ : Tau) (R : Tau) (hf : fX2_readNumber τ = some R) : Fr [(13, 4), (14, 2), (14, 3), (14, 4), (14, 5), (14, 6), (16, 1)] [] τ R := by
  have L41 : ∀ (τ : Tau), fX2_readNumber_41 τ = some R → Fr [(13, 4), (14, 2), (14, 3), (14, 4), (14, 5), (14, 6), (16, 1)] [] τ R := by
    intro τ hf
    unfold fX2_readNumber_41 at hf
    have g : Fr [(13, 4), (14, 2), (14, 3), (14, 4), (14, 5), (14, 6), (16, 1)] [] τ τ := Fr.rf
    obtain ⟨r5, er5, hf⟩ := ks_bind hf
    have g := g.tr ((fr_X2_pass _ _ _ er5).wk (by decide) (by decide))
    replace hf := Option.some.inj hf
    subst hf
    exact g
  unfold fX2_readNumber at hf
  have g : Fr [(13, 4), (14, 2), (14, 3), (14, 4), (14, 5), (14, 6), (16, 1)] [] τ τ := Fr.rf
  obtain ⟨t1, et1, hf⟩ := ks_nm hf
  have g := g.tr (show Fr _ _ _ t1 by rw [et1]; exact Fr.sI (by decide))
  by_cases c2 : tI t1 14 2 = (3 : Int32)
  · have hf := (if_pos c2).symm.trans hf
    by_cases c3 : tI t1 14 3 ≤ (6 : Int32)
    · have hf := (if_pos c3).symm.trans hf
      exact g.tr (L41 _ hf)
    · have hf := (if_neg c3).symm.trans hf
      obtain ⟨r4, er4, hf⟩ := ks_nm hf
      have g := g.tr ((fr_X2_fail _ _ er4.symm).wk (by decide) (by decide))
      exact g.tr (L41 _ hf)
  · have hf := (if_neg c2).symm.trans hf
    exact g.tr (L41 _ hf)
set_option maxRecDepth 100000 in
theorem fr_X2_readHead  (τ : Tau) (R : Tau) (hf : fX2_readHead τ = some R) : Fr [(13, 4), (14, 2), (14, 3), (14, 4), (14, 5), (14, 6), (16, 0), (16, 1), (16, 5)] [] τ R := by
  have L128 : ∀ (τ : Tau), fX2_readHead_128 τ = some R → Fr [(13, 4), (14, 2), (14, 3), (14, 4), (14, 5), (14, 6), (16, 0), (16, 1), (16, 5)] [] τ R := by
    intro τ hf
    unfold fX2_readHead_128 at hf
    have g : Fr [(13, 4), (14, 2), (14, 3), (14, 4), (14, 5), (14, 6), (16, 0), (16, 1), (16, 5)] [] τ τ := Fr.rf
    obtain ⟨r15, er15, hf⟩ := ks_bind hf
    have g := g.tr ((fr_X2_readNumber _ _ er15).wk (by decide) (by decide))
    replace hf := Option.some.inj hf
    subst hf
    exact g
  have L101 : ∀ (τ : Tau), fX2_readHead_101 τ = some R → Fr [(13, 4), (14, 2), (14, 3), (14, 4), (14, 5), (14, 6), (16, 0), (16, 1), (16, 5)] [] τ R := by
    intro τ hf
    unfold fX2_readHead_101 at hf
    have g : Fr [(13, 4), (14, 2), (14, 3), (14, 4), (14, 5), (14, 6), (16, 0), (16, 1), (16, 5)] [] τ τ := Fr.rf
    obtain ⟨r12, er12, hf⟩ := ks_bind hf
    have g := g.tr ((fr_X2_pass _ _ _ er12).wk (by decide) (by decide))
    by_cases c13 : tI r12 16 0 = (4 : Int32)
    · have hf := (if_pos c13).symm.trans hf
      exact g.tr (L128 _ hf)
    · have hf := (if_neg c13).symm.trans hf
      by_cases c14 : tI r12 16 0 = (5 : Int32)
      · have hf := (if_pos c14).symm.trans hf
        exact g.tr (L128 _ hf)
      · have hf := (if_neg c14).symm.trans hf
        replace hf := Option.some.inj hf
        subst hf
        exact g
  have L52 : ∀ (τ : Tau), fX2_readHead_52 τ = some R → Fr [(13, 4), (14, 2), (14, 3), (14, 4), (14, 5), (14, 6), (16, 0), (16, 1), (16, 5)] [] τ R := by
    intro τ hf
    unfold fX2_readHead_52 at hf
    have g : Fr [(13, 4), (14, 2), (14, 3), (14, 4), (14, 5), (14, 6), (16, 0), (16, 1), (16, 5)] [] τ τ := Fr.rf
    obtain ⟨t7, et7, hf⟩ := ks_nm hf
    have g := g.tr (show Fr _ _ _ t7 by rw [et7]; exact Fr.sI (by decide))
    obtain ⟨t8, et8, hf⟩ := ks_nm hf
    have g := g.tr (show Fr _ _ _ t8 by rw [et8]; exact Fr.sI (by decide))
    by_cases c9 : tI t8 14 2 = (2 : Int32)
    · have hf := (if_pos c9).symm.trans hf
      by_cases c10 : tI t8 14 3 = (8 : Int32)
      · have hf := (if_pos c10).symm.trans hf
        obtain ⟨r11, er11, hf⟩ := ks_nm hf
        have g := g.tr ((fr_X2_fail _ _ er11.symm).wk (by decide) (by decide))
        exact g.tr (L101 _ hf)
      · have hf := (if_neg c10).symm.trans hf
        exact g.tr (L101 _ hf)
    · have hf := (if_neg c9).symm.trans hf
      exact g.tr (L101 _ hf)
  have L32 : ∀ (τ : Tau) (z_0 : Int32), fX2_readHead_32 τ z_0 = some R → Fr [(13, 4), (14, 2), (14, 3), (14, 4), (14, 5), (14, 6), (16, 0), (16, 1), (16, 5)] [] τ R := by
    intro τ z_0 hf
    unfold fX2_readHead_32 at hf
    have g : Fr [(13, 4), (14, 2), (14, 3), (14, 4), (14, 5), (14, 6), (16, 0), (16, 1), (16, 5)] [] τ τ := Fr.rf
    obtain ⟨b3, hf⟩ := ks_need hf
    obtain ⟨t4, et4, hf⟩ := ks_nm hf
    have g := g.tr (show Fr _ _ _ t4 by rw [et4]; exact Fr.sI (by decide))
    by_cases c5 : tI t4 16 5 = 0
    · have hf := (if_pos c5).symm.trans hf
      exact g.tr (L52 _ hf)
    · have hf := (if_neg c5).symm.trans hf
      obtain ⟨r6, er6, hf⟩ := ks_bind hf
      have g := g.tr ((fr_X4_advance _ _ er6).wk (by decide) (by decide))
      exact g.tr (L52 _ hf)
  have L31 : ∀ (τ : Tau), fX2_readHead_31 τ = some R → Fr [(13, 4), (14, 2), (14, 3), (14, 4), (14, 5), (14, 6), (16, 0), (16, 1), (16, 5)] [] τ R := by
    intro τ hf
    unfold fX2_readHead_31 at hf
    have g : Fr [(13, 4), (14, 2), (14, 3), (14, 4), (14, 5), (14, 6), (16, 0), (16, 1), (16, 5)] [] τ τ := Fr.rf
    exact g.tr (L32 _ _ hf)
  unfold fX2_readHead at hf
  have g : Fr [(13, 4), (14, 2), (14, 3), (14, 4), (14, 5), (14, 6), (16, 0), (16, 1), (16, 5)] [] τ τ := Fr.rf
  by_cases c1 : tI τ 14 2 = (2 : Int32)
  · have hf := (if_pos c1).symm.trans hf
    by_cases c2 : tI τ 14 3 = (8 : Int32)
    · have hf := (if_pos c2).symm.trans hf
      exact g.tr (L32 _ _ hf)
    · have hf := (if_neg c2).symm.trans hf
      exact g.tr (L31 _ hf)
  · have hf := (if_neg c1).symm.trans hf
    exact g.tr (L31 _ hf)
def HPFR (part : Tau → Int32 → Option (Int32 × Tau)) : Prop := ∀ (τ : Tau) (o : Int32) (R : Int32 × Tau), part τ o = some R → Fr [(13, 3), (13, 4), (14, 2), (14, 3), (14, 4), (14, 5), (14, 6)] [] τ R.2
set_option maxRecDepth 100000 in
theorem fr_X2_readMeet (part : Tau → Int32 → Option (Int32 × Tau)) (hpfr : HPFR part) (τ : Tau) (p1 : Int32) (R : (Int32 × Tau)) (hf : fX2_readMeet part τ p1 = some R) : Fr [(13, 3), (13, 4), (14, 2), (14, 3), (14, 4), (14, 5), (14, 6)] [] τ R.2 := by
  have L8 : ∀ (n8 : Nat) (τ : Tau) (x_2 : Int32) (x_3 : Int32), fX2_readMeet_8 part p1 n8 τ x_2 x_3 = some R → Fr [(13, 3), (13, 4), (14, 2), (14, 3), (14, 4), (14, 5), (14, 6)] [] τ R.2 := by
    intro n8
    induction n8 with
    | zero => intro τ x_2 x_3 hf; exact absurd hf (by rw [fX2_readMeet_8]; simp)
    | succ n8 ih8 =>
      intro τ x_2 x_3 hf
      rw [fX2_readMeet_8] at hf
      have g : Fr [(13, 3), (13, 4), (14, 2), (14, 3), (14, 4), (14, 5), (14, 6)] [] τ τ := Fr.rf
      by_cases c2 : (80 : Int32) ≤ x_3
      · have hf := (if_pos c2).symm.trans hf
        replace hf := Option.some.inj hf
        subst hf
        exact g
      · have hf := (if_neg c2).symm.trans hf
        by_cases c3 : tI τ 13 4 = (-1 : Int32)
        · have hf := (if_pos c3).symm.trans hf
          by_cases c4 : tI τ 14 2 = (38 : Int32)
          · have hf := (if_pos c4).symm.trans hf
            obtain ⟨r5, er5, hf⟩ := ks_bind hf
            have g := g.tr ((fr_X4_advance _ _ er5).wk (by decide) (by decide))
            obtain ⟨r6, er6, hf⟩ := ks_bind hf
            have g := g.tr ((hpfr _ _ _ er6).wk (by decide) (by decide))
            obtain ⟨x7, ex7, hf⟩ := ks_nm hf
            obtain ⟨x8, ex8, hf⟩ := ks_nm hf
            exact g.tr (ih8 _ _ _ hf)
          · have hf := (if_neg c4).symm.trans hf
            replace hf := Option.some.inj hf
            subst hf
            exact g
        · have hf := (if_neg c3).symm.trans hf
          replace hf := Option.some.inj hf
          subst hf
          exact g
  unfold fX2_readMeet at hf
  have g : Fr [(13, 3), (13, 4), (14, 2), (14, 3), (14, 4), (14, 5), (14, 6)] [] τ τ := Fr.rf
  obtain ⟨r1, er1, hf⟩ := ks_bind hf
  have g := g.tr ((hpfr _ _ _ er1).wk (by decide) (by decide))
  exact g.tr (L8 FU _ _ _ hf)
set_option maxRecDepth 100000 in
theorem fr_X2_readUnion (part : Tau → Int32 → Option (Int32 × Tau)) (hpfr : HPFR part) (τ : Tau) (p1 : Int32) (R : (Int32 × Tau)) (hf : fX2_readUnion part τ p1 = some R) : Fr [(13, 3), (13, 4), (14, 2), (14, 3), (14, 4), (14, 5), (14, 6)] [] τ R.2 := by
  have L8 : ∀ (n8 : Nat) (τ : Tau) (x_2 : Int32) (x_3 : Int32), fX2_readUnion_8 part p1 n8 τ x_2 x_3 = some R → Fr [(13, 3), (13, 4), (14, 2), (14, 3), (14, 4), (14, 5), (14, 6)] [] τ R.2 := by
    intro n8
    induction n8 with
    | zero => intro τ x_2 x_3 hf; exact absurd hf (by rw [fX2_readUnion_8]; simp)
    | succ n8 ih8 =>
      intro τ x_2 x_3 hf
      rw [fX2_readUnion_8] at hf
      have g : Fr [(13, 3), (13, 4), (14, 2), (14, 3), (14, 4), (14, 5), (14, 6)] [] τ τ := Fr.rf
      by_cases c2 : (80 : Int32) ≤ x_3
      · have hf := (if_pos c2).symm.trans hf
        replace hf := Option.some.inj hf
        subst hf
        exact g
      · have hf := (if_neg c2).symm.trans hf
        by_cases c3 : tI τ 13 4 = (-1 : Int32)
        · have hf := (if_pos c3).symm.trans hf
          by_cases c4 : tI τ 14 2 = (124 : Int32)
          · have hf := (if_pos c4).symm.trans hf
            obtain ⟨r5, er5, hf⟩ := ks_bind hf
            have g := g.tr ((fr_X4_advance _ _ er5).wk (by decide) (by decide))
            obtain ⟨r6, er6, hf⟩ := ks_bind hf
            have g := g.tr ((fr_X2_readMeet part hpfr _ _ _ er6).wk (by decide) (by decide))
            obtain ⟨x7, ex7, hf⟩ := ks_nm hf
            obtain ⟨x8, ex8, hf⟩ := ks_nm hf
            exact g.tr (ih8 _ _ _ hf)
          · have hf := (if_neg c4).symm.trans hf
            replace hf := Option.some.inj hf
            subst hf
            exact g
        · have hf := (if_neg c3).symm.trans hf
          replace hf := Option.some.inj hf
          subst hf
          exact g
  unfold fX2_readUnion at hf
  have g : Fr [(13, 3), (13, 4), (14, 2), (14, 3), (14, 4), (14, 5), (14, 6)] [] τ τ := Fr.rf
  obtain ⟨r1, er1, hf⟩ := ks_bind hf
  have g := g.tr ((fr_X2_readMeet part hpfr _ _ _ er1).wk (by decide) (by decide))
  exact g.tr (L8 FU _ _ _ hf)
set_option maxRecDepth 100000 in
theorem fr_X2_readPart (part : Tau → Int32 → Option (Int32 × Tau)) (hpfr : HPFR part) (τ : Tau) (p1 : Int32) (R : (Int32 × Tau)) (hf : fX2_readPart part τ p1 = some R) : Fr [(13, 3), (13, 4), (14, 2), (14, 3), (14, 4), (14, 5), (14, 6)] [] τ R.2 := by
  have L30 : ∀ (τ : Tau) (x_2 : Int32) (x_3 : Int32), fX2_readPart_30 part p1 τ x_2 x_3 = some R → Fr [(13, 3), (13, 4), (14, 2), (14, 3), (14, 4), (14, 5), (14, 6)] [] τ R.2 := by
    intro τ x_2 x_3 hf
    unfold fX2_readPart_30 at hf
    have g : Fr [(13, 3), (13, 4), (14, 2), (14, 3), (14, 4), (14, 5), (14, 6)] [] τ τ := Fr.rf
    by_cases c6 : tI τ 13 4 = (-1 : Int32)
    · have hf := (if_pos c6).symm.trans hf
      obtain ⟨t7, et7, hf⟩ := ks_nm hf
      have g := g.tr (show Fr _ _ _ t7 by rw [et7]; exact Fr.sI (by decide))
      obtain ⟨r8, er8, hf⟩ := ks_bind hf
      have g := g.tr ((fr_X4_advance _ _ er8).wk (by decide) (by decide))
      by_cases c9 : x_2 = (4 : Int32)
      · have hf := (if_pos c9).symm.trans hf
        obtain ⟨r15, er15, hf⟩ := ks_bind hf
        replace hf := Option.some.inj hf
        subst hf
        exact g
      · have hf := (if_neg c9).symm.trans hf
        by_cases c10 : x_2 = (33 : Int32)
        · have hf := (if_pos c10).symm.trans hf
          obtain ⟨r13, er13, hf⟩ := ks_nm hf
          obtain ⟨r14, er14, hf⟩ := ks_bind hf
          have g := g.tr ((hpfr _ _ _ er14).wk (by decide) (by decide))
          replace hf := Option.some.inj hf
          subst hf
          exact g
        · have hf := (if_neg c10).symm.trans hf
          obtain ⟨r11, er11, hf⟩ := ks_bind hf
          have g := g.tr ((fr_X2_readUnion part hpfr _ _ _ er11).wk (by decide) (by decide))
          obtain ⟨r12, er12, hf⟩ := ks_bind hf
          have g := g.tr ((fr_X2_pass _ _ _ er12).wk (by decide) (by decide))
          replace hf := Option.some.inj hf
          subst hf
          exact g
    · have hf := (if_neg c6).symm.trans hf
      replace hf := Option.some.inj hf
      subst hf
      exact g
  unfold fX2_readPart at hf
  have g : Fr [(13, 3), (13, 4), (14, 2), (14, 3), (14, 4), (14, 5), (14, 6)] [] τ τ := Fr.rf
  obtain ⟨x1, ex1, hf⟩ := ks_nm hf
  obtain ⟨x2, ex2, hf⟩ := ks_nm hf
  obtain ⟨r3, er3, hf⟩ := ks_nm hf
  by_cases c4 : bI r3 = 0
  · have hf := (if_pos c4).symm.trans hf
    obtain ⟨r5, er5, hf⟩ := ks_nm hf
    have g := g.tr ((fr_X2_fail _ _ er5.symm).wk (by decide) (by decide))
    exact g.tr (L30 _ _ _ hf)
  · have hf := (if_neg c4).symm.trans hf
    exact g.tr (L30 _ _ _ hf)
theorem fr_X2_part : ∀ d : Nat, HPFR (fX2_part d)
  | 0 => fun τ o R hf => absurd hf (by simp [fX2_part])
  | d + 1 => fun τ o R hf => fr_X2_readPart (fX2_part d) (fr_X2_part d) τ o R hf
set_option maxRecDepth 100000 in
theorem fr_X2_readSide  (τ : Tau) (R : (Int32 × Tau)) (hf : fX2_readSide τ = some R) : Fr [(13, 3), (13, 4), (13, 5), (14, 2), (14, 3), (14, 4), (14, 5), (14, 6)] [] τ R.2 := by
  unfold fX2_readSide at hf
  have g : Fr [(13, 3), (13, 4), (13, 5), (14, 2), (14, 3), (14, 4), (14, 5), (14, 6)] [] τ τ := Fr.rf
  obtain ⟨x1, ex1, hf⟩ := ks_nm hf
  obtain ⟨x2, ex2, hf⟩ := ks_nm hf
  obtain ⟨r3, er3, hf⟩ := ks_bind hf
  have g := g.tr ((fr_X2_readUnion (fX2_part 12) (fr_X2_part 12) _ _ _ er3).wk (by decide) (by decide))
  by_cases c4 : (tI r3.2 14 5 - x2) = (1 : Int32)
  · have hf := (if_pos c4).symm.trans hf
    obtain ⟨t6, et6, hf⟩ := ks_nm hf
    have g := g.tr (show Fr _ _ _ t6 by rw [et6]; exact Fr.sI (by decide))
    replace hf := Option.some.inj hf
    subst hf
    exact g
  · have hf := (if_neg c4).symm.trans hf
    obtain ⟨t5, et5, hf⟩ := ks_nm hf
    have g := g.tr (show Fr _ _ _ t5 by rw [et5]; exact Fr.sI (by decide))
    replace hf := Option.some.inj hf
    subst hf
    exact g
set_option maxRecDepth 100000 in
theorem fr_X2_readDraft  (τ : Tau) (p1 : Int32) (R : (Int32 × Tau)) (hf : fX2_readDraft τ p1 = some R) : Fr [(13, 2), (13, 3), (13, 4), (13, 5), (14, 2), (14, 3), (14, 4), (14, 5), (14, 6), (16, 0), (16, 1), (16, 2), (16, 3), (16, 4), (16, 5)] [] τ R.2 := by
  unfold fX2_readDraft at hf
  have g : Fr [(13, 2), (13, 3), (13, 4), (13, 5), (14, 2), (14, 3), (14, 4), (14, 5), (14, 6), (16, 0), (16, 1), (16, 2), (16, 3), (16, 4), (16, 5)] [] τ τ := Fr.rf
  obtain ⟨t1, et1, hf⟩ := ks_nm hf
  have g := g.tr (show Fr _ _ _ t1 by rw [et1]; exact Fr.sI (by decide))
  obtain ⟨t2, et2, hf⟩ := ks_nm hf
  have g := g.tr (show Fr _ _ _ t2 by rw [et2]; exact Fr.sI (by decide))
  obtain ⟨t3, et3, hf⟩ := ks_nm hf
  have g := g.tr (show Fr _ _ _ t3 by rw [et3]; exact Fr.sI (by decide))
  obtain ⟨r4, er4, hf⟩ := ks_bind hf
  have g := g.tr ((fr_X4_begin _ _ er4).wk (by decide) (by decide))
  obtain ⟨r5, er5, hf⟩ := ks_bind hf
  have g := g.tr ((fr_X2_readHead _ _ er5).wk (by decide) (by decide))
  obtain ⟨r6, er6, hf⟩ := ks_bind hf
  have g := g.tr ((fr_X2_readSide _ _ er6).wk (by decide) (by decide))
  obtain ⟨t7, et7, hf⟩ := ks_nm hf
  have g := g.tr (show Fr _ _ _ t7 by rw [et7]; exact Fr.sI (by decide))
  obtain ⟨x8, ex8, hf⟩ := ks_nm hf
  obtain ⟨r9, er9, hf⟩ := ks_bind hf
  have g := g.tr ((fr_X2_pass _ _ _ er9).wk (by decide) (by decide))
  obtain ⟨r10, er10, hf⟩ := ks_bind hf
  have g := g.tr ((fr_X2_readSide _ _ er10).wk (by decide) (by decide))
  obtain ⟨t11, et11, hf⟩ := ks_nm hf
  have g := g.tr (show Fr _ _ _ t11 by rw [et11]; exact Fr.sI (by decide))
  obtain ⟨x12, ex12, hf⟩ := ks_nm hf
  obtain ⟨r13, er13, hf⟩ := ks_bind hf
  have g := g.tr ((fr_X2_pass _ _ _ er13).wk (by decide) (by decide))
  obtain ⟨r14, er14, hf⟩ := ks_nm hf
  obtain ⟨t15, et15, hf⟩ := ks_nm hf
  have g := g.tr (show Fr _ _ _ t15 by rw [et15]; exact Fr.sI (by decide))
  replace hf := Option.some.inj hf
  subst hf
  exact g
set_option maxRecDepth 100000 in
theorem fr_X0_refresh  (τ : Tau) (R : Tau) (hf : fX0_refresh τ = some R) : Fr [(17, 9), (18, 3), (18, 4), (18, 5), (26, 0)] [19, 20, 21, 22, 23, 24, 26] τ R := by
  have L101 : ∀ (τ : Tau), fX0_refresh_101 τ = some R → Fr [(17, 9), (18, 3), (18, 4), (18, 5), (26, 0)] [19, 20, 21, 22, 23, 24, 26] τ R := by
    intro τ hf
    unfold fX0_refresh_101 at hf
    have g : Fr [(17, 9), (18, 3), (18, 4), (18, 5), (26, 0)] [19, 20, 21, 22, 23, 24, 26] τ τ := Fr.rf
    obtain ⟨t15, et15, hf⟩ := ks_nm hf
    have g := g.tr (show Fr _ _ _ t15 by rw [et15]; exact Fr.sI (by decide))
    obtain ⟨r16, er16, hf⟩ := ks_bind hf
    have g := g.tr ((fr_X0_fillHeaps _ _ er16).wk (by decide) (by decide))
    obtain ⟨r17, er17, hf⟩ := ks_bind hf
    have g := g.tr ((fr_X0_addTogether _ _ er17).wk (by decide) (by decide))
    replace hf := Option.some.inj hf
    subst hf
    exact g
  have L32 : ∀ (n32 : Nat) (τ : Tau) (x_2 : Int32), fX0_refresh_32 n32 τ x_2 = some R → Fr [(17, 9), (18, 3), (18, 4), (18, 5), (26, 0)] [19, 20, 21, 22, 23, 24, 26] τ R := by
    intro n32
    induction n32 with
    | zero => intro τ x_2 hf; exact absurd hf (by rw [fX0_refresh_32]; simp)
    | succ n32 ih32 =>
      have L95 : ∀ (τ : Tau) (x_2 : Int32), fX0_refresh_95 (fX0_refresh_32 n32) τ x_2 = some R → Fr [(17, 9), (18, 3), (18, 4), (18, 5), (26, 0)] [19, 20, 21, 22, 23, 24, 26] τ R := by
        intro τ x_2 hf
        unfold fX0_refresh_95 at hf
        have g : Fr [(17, 9), (18, 3), (18, 4), (18, 5), (26, 0)] [19, 20, 21, 22, 23, 24, 26] τ τ := Fr.rf
        obtain ⟨x14, ex14, hf⟩ := ks_nm hf
        exact g.tr (ih32 _ _ hf)
      intro τ x_2 hf
      rw [fX0_refresh_32] at hf
      have g : Fr [(17, 9), (18, 3), (18, 4), (18, 5), (26, 0)] [19, 20, 21, 22, 23, 24, 26] τ τ := Fr.rf
      by_cases c5 : (10 : Int32) ≤ x_2
      · have hf := (if_pos c5).symm.trans hf
        exact g.tr (L101 _ hf)
      · have hf := (if_neg c5).symm.trans hf
        by_cases c6 : (10 : Int32) ≤ x_2
        · have hf := (if_pos c6).symm.trans hf
          exact g.tr (L101 _ hf)
        · have hf := (if_neg c6).symm.trans hf
          obtain ⟨b7, hf⟩ := ks_ok hf
          obtain ⟨r8, er8, hf⟩ := ks_nm hf
          by_cases c9 : bI r8 = 0
          · have hf := (if_pos c9).symm.trans hf
            exact g.tr (L95 _ _ hf)
          · have hf := (if_neg c9).symm.trans hf
            obtain ⟨r10, er10, hf⟩ := ks_bind hf
            obtain ⟨x11, ex11, hf⟩ := ks_nm hf
            obtain ⟨r12, er12, hf⟩ := ks_bind hf
            have g := g.tr ((fr_X0_mark _ _ _ _ er12).wk (by decide) (by decide))
            obtain ⟨t13, et13, hf⟩ := ks_nm hf
            have g := g.tr (show Fr _ _ _ t13 by rw [et13]; exact Fr.sI (by decide))
            exact g.tr (L95 _ _ hf)
  have L30 : ∀ (τ : Tau), fX0_refresh_30 τ = some R → Fr [(17, 9), (18, 3), (18, 4), (18, 5), (26, 0)] [19, 20, 21, 22, 23, 24, 26] τ R := by
    intro τ hf
    unfold fX0_refresh_30 at hf
    have g : Fr [(17, 9), (18, 3), (18, 4), (18, 5), (26, 0)] [19, 20, 21, 22, 23, 24, 26] τ τ := Fr.rf
    exact g.tr (L32 FU _ _ hf)
  unfold fX0_refresh at hf
  have g : Fr [(17, 9), (18, 3), (18, 4), (18, 5), (26, 0)] [19, 20, 21, 22, 23, 24, 26] τ τ := Fr.rf
  by_cases c1 : tI τ 17 9 = 0
  · have hf := (if_pos c1).symm.trans hf
    replace hf := Option.some.inj hf
    subst hf
    exact g
  · have hf := (if_neg c1).symm.trans hf
    by_cases c2 : tI τ 17 8 ≤ nI (tI τ 26 0).toNatClampNeg
    · have hf := (if_pos c2).symm.trans hf
      exact g.tr (L30 _ hf)
    · have hf := (if_neg c2).symm.trans hf
      obtain ⟨b3, hf⟩ := ks_ok hf
      obtain ⟨t4, et4, hf⟩ := ks_nm hf
      have g := g.tr (show Fr _ _ _ t4 by rw [et4]; exact Fr.sN (by decide) (by decide))
      exact g.tr (L30 _ hf)
set_option maxRecDepth 100000 in
theorem fr_X6_freshHeaps  (τ : Tau) (R : Tau) (hf : fX6_freshHeaps τ = some R) : Fr [(17, 9), (18, 3), (18, 4), (18, 5), (26, 0)] [19, 20, 21, 22, 23, 24, 26] τ R := by
  unfold fX6_freshHeaps at hf
  have g : Fr [(17, 9), (18, 3), (18, 4), (18, 5), (26, 0)] [19, 20, 21, 22, 23, 24, 26] τ τ := Fr.rf
  obtain ⟨r1, er1, hf⟩ := ks_bind hf
  have g := g.tr ((fr_X0_refresh _ _ er1).wk (by decide) (by decide))
  replace hf := Option.some.inj hf
  subst hf
  exact g
set_option maxRecDepth 100000 in
theorem fr_X6_can  (τ : Tau) (p1 : Int32) (R : (Int32 × Tau)) (hf : fX6_can τ p1 = some R) : Fr [(17, 9), (18, 3), (18, 4), (18, 5), (26, 0)] [19, 20, 21, 22, 23, 24, 26] τ R.2 := by
  unfold fX6_can at hf
  have g : Fr [(17, 9), (18, 3), (18, 4), (18, 5), (26, 0)] [19, 20, 21, 22, 23, 24, 26] τ τ := Fr.rf
  obtain ⟨r1, er1, hf⟩ := ks_nm hf
  by_cases c2 : bI r1 = 0
  · have hf := (if_pos c2).symm.trans hf
    replace hf := Option.some.inj hf
    subst hf
    exact g
  · have hf := (if_neg c2).symm.trans hf
    obtain ⟨r3, er3, hf⟩ := ks_bind hf
    have g := g.tr ((fr_X6_freshHeaps _ _ er3).wk (by decide) (by decide))
    obtain ⟨r4, er4, hf⟩ := ks_bind hf
    replace hf := Option.some.inj hf
    subst hf
    exact g
set_option maxRecDepth 100000 in
theorem fr_X6_least  (τ : Tau) (p1 : Int32) (p2 : Int32) (R : (Int32 × Tau)) (hf : fX6_least τ p1 p2 = some R) : Fr [(17, 9), (18, 3), (18, 4), (18, 5), (26, 0)] [19, 20, 21, 22, 23, 24, 26] τ R.2 := by
  unfold fX6_least at hf
  have g : Fr [(17, 9), (18, 3), (18, 4), (18, 5), (26, 0)] [19, 20, 21, 22, 23, 24, 26] τ τ := Fr.rf
  obtain ⟨r1, er1, hf⟩ := ks_nm hf
  by_cases c2 : bI r1 = 0
  · have hf := (if_pos c2).symm.trans hf
    replace hf := Option.some.inj hf
    subst hf
    exact g
  · have hf := (if_neg c2).symm.trans hf
    obtain ⟨r3, er3, hf⟩ := ks_nm hf
    by_cases c4 : bI r3 = 0
    · have hf := (if_pos c4).symm.trans hf
      replace hf := Option.some.inj hf
      subst hf
      exact g
    · have hf := (if_neg c4).symm.trans hf
      obtain ⟨r5, er5, hf⟩ := ks_bind hf
      have g := g.tr ((fr_X6_freshHeaps _ _ er5).wk (by decide) (by decide))
      obtain ⟨r6, er6, hf⟩ := ks_bind hf
      obtain ⟨r7, er7, hf⟩ := ks_bind hf
      replace hf := Option.some.inj hf
      subst hf
      exact g
set_option maxRecDepth 100000 in
theorem fr_X6_follows  (τ : Tau) (p1 : Int32) (p2 : Int32) (R : (Int32 × Tau)) (hf : fX6_follows τ p1 p2 = some R) : Fr [(17, 9), (18, 3), (18, 4), (18, 5), (26, 0)] [19, 20, 21, 22, 23, 24, 26] τ R.2 := by
  unfold fX6_follows at hf
  have g : Fr [(17, 9), (18, 3), (18, 4), (18, 5), (26, 0)] [19, 20, 21, 22, 23, 24, 26] τ τ := Fr.rf
  obtain ⟨r1, er1, hf⟩ := ks_nm hf
  by_cases c2 : bI r1 = 0
  · have hf := (if_pos c2).symm.trans hf
    replace hf := Option.some.inj hf
    subst hf
    exact g
  · have hf := (if_neg c2).symm.trans hf
    by_cases c3 : (p2 < 0 ∨ 10 ≤ p2.toNatClampNeg)
    · have hf := (if_pos c3).symm.trans hf
      replace hf := Option.some.inj hf
      subst hf
      exact g
    · have hf := (if_neg c3).symm.trans hf
      obtain ⟨r4, er4, hf⟩ := ks_bind hf
      have g := g.tr ((fr_X6_freshHeaps _ _ er4).wk (by decide) (by decide))
      obtain ⟨r5, er5, hf⟩ := ks_bind hf
      obtain ⟨r6, er6, hf⟩ := ks_nm hf
      replace hf := Option.some.inj hf
      subst hf
      exact g
set_option maxRecDepth 100000 in
theorem fr_X6_against  (τ : Tau) (p1 : Int32) (p2 : Int32) (p3 : Int32) (R : (Int32 × Tau)) (hf : fX6_against τ p1 p2 p3 = some R) : Fr [(17, 9), (18, 3), (18, 4), (18, 5), (26, 0)] [19, 20, 21, 22, 23, 24, 26] τ R.2 := by
  unfold fX6_against at hf
  have g : Fr [(17, 9), (18, 3), (18, 4), (18, 5), (26, 0)] [19, 20, 21, 22, 23, 24, 26] τ τ := Fr.rf
  obtain ⟨r1, er1, hf⟩ := ks_nm hf
  by_cases c2 : bI r1 = 0
  · have hf := (if_pos c2).symm.trans hf
    replace hf := Option.some.inj hf
    subst hf
    exact g
  · have hf := (if_neg c2).symm.trans hf
    by_cases c3 : (p2 < 0 ∨ 10 ≤ p2.toNatClampNeg)
    · have hf := (if_pos c3).symm.trans hf
      replace hf := Option.some.inj hf
      subst hf
      exact g
    · have hf := (if_neg c3).symm.trans hf
      obtain ⟨r4, er4, hf⟩ := ks_nm hf
      by_cases c5 : bI r4 = 0
      · have hf := (if_pos c5).symm.trans hf
        replace hf := Option.some.inj hf
        subst hf
        exact g
      · have hf := (if_neg c5).symm.trans hf
        obtain ⟨r6, er6, hf⟩ := ks_bind hf
        have g := g.tr ((fr_X6_freshHeaps _ _ er6).wk (by decide) (by decide))
        obtain ⟨r7, er7, hf⟩ := ks_bind hf
        obtain ⟨r8, er8, hf⟩ := ks_bind hf
        replace hf := Option.some.inj hf
        subst hf
        exact g
set_option maxRecDepth 100000 in
theorem fr_X6_unsaid  (τ : Tau) (p1 : Int32) (R : (Int32 × Tau)) (hf : fX6_unsaid τ p1 = some R) : Fr [(17, 9), (18, 3), (18, 4), (18, 5), (26, 0)] [19, 20, 21, 22, 23, 24, 26] τ R.2 := by
  have L19 : ∀ (n19 : Nat) (τ : Tau) (x_3 : Int32) (x_4 : Int32), fX6_unsaid_19 p1 n19 τ x_3 x_4 = some R → Fr [(17, 9), (18, 3), (18, 4), (18, 5), (26, 0)] [19, 20, 21, 22, 23, 24, 26] τ R.2 := by
    intro n19
    induction n19 with
    | zero => intro τ x_3 x_4 hf; exact absurd hf (by rw [fX6_unsaid_19]; simp)
    | succ n19 ih19 =>
      have L59 : ∀ (τ : Tau) (x_3 : Int32) (x_4 : Int32), fX6_unsaid_59 p1 (fX6_unsaid_19 p1 n19) τ x_3 x_4 = some R → Fr [(17, 9), (18, 3), (18, 4), (18, 5), (26, 0)] [19, 20, 21, 22, 23, 24, 26] τ R.2 := by
        intro τ x_3 x_4 hf
        unfold fX6_unsaid_59 at hf
        have g : Fr [(17, 9), (18, 3), (18, 4), (18, 5), (26, 0)] [19, 20, 21, 22, 23, 24, 26] τ τ := Fr.rf
        obtain ⟨x10, ex10, hf⟩ := ks_nm hf
        exact g.tr (ih19 _ _ _ hf)
      intro τ x_3 x_4 hf
      rw [fX6_unsaid_19] at hf
      have g : Fr [(17, 9), (18, 3), (18, 4), (18, 5), (26, 0)] [19, 20, 21, 22, 23, 24, 26] τ τ := Fr.rf
      by_cases c4 : (10 : Int32) ≤ x_4
      · have hf := (if_pos c4).symm.trans hf
        replace hf := Option.some.inj hf
        subst hf
        exact g
      · have hf := (if_neg c4).symm.trans hf
        obtain ⟨r5, er5, hf⟩ := ks_nm hf
        by_cases c6 : bI r5 = 0
        · have hf := (if_pos c6).symm.trans hf
          exact g.tr (L59 _ _ _ hf)
        · have hf := (if_neg c6).symm.trans hf
          obtain ⟨r7, er7, hf⟩ := ks_bind hf
          by_cases c8 : bI r7 = 0
          · have hf := (if_pos c8).symm.trans hf
            exact g.tr (L59 _ _ _ hf)
          · have hf := (if_neg c8).symm.trans hf
            obtain ⟨x9, ex9, hf⟩ := ks_nm hf
            exact g.tr (L59 _ _ _ hf)
  unfold fX6_unsaid at hf
  have g : Fr [(17, 9), (18, 3), (18, 4), (18, 5), (26, 0)] [19, 20, 21, 22, 23, 24, 26] τ τ := Fr.rf
  obtain ⟨r1, er1, hf⟩ := ks_nm hf
  by_cases c2 : bI r1 = 0
  · have hf := (if_pos c2).symm.trans hf
    replace hf := Option.some.inj hf
    subst hf
    exact g
  · have hf := (if_neg c2).symm.trans hf
    obtain ⟨r3, er3, hf⟩ := ks_bind hf
    have g := g.tr ((fr_X6_freshHeaps _ _ er3).wk (by decide) (by decide))
    exact g.tr (L19 FU _ _ _ hf)
set_option maxRecDepth 100000 in
theorem fr_X6_clash  (τ : Tau) (p1 : Int32) (p2 : Int32) (R : (Int32 × Tau)) (hf : fX6_clash τ p1 p2 = some R) : Fr [(17, 9), (18, 3), (18, 4), (18, 5), (26, 0)] [19, 20, 21, 22, 23, 24, 26] τ R.2 := by
  unfold fX6_clash at hf
  have g : Fr [(17, 9), (18, 3), (18, 4), (18, 5), (26, 0)] [19, 20, 21, 22, 23, 24, 26] τ τ := Fr.rf
  obtain ⟨r1, er1, hf⟩ := ks_nm hf
  by_cases c2 : bI r1 = 0
  · have hf := (if_pos c2).symm.trans hf
    replace hf := Option.some.inj hf
    subst hf
    exact g
  · have hf := (if_neg c2).symm.trans hf
    by_cases c3 : p2 < 0
    · have hf := (if_pos c3).symm.trans hf
      replace hf := Option.some.inj hf
      subst hf
      exact g
    · have hf := (if_neg c3).symm.trans hf
      by_cases c4 : p2 ≤ (1 : Int32)
      · have hf := (if_pos c4).symm.trans hf
        obtain ⟨r5, er5, hf⟩ := ks_bind hf
        have g := g.tr ((fr_X6_freshHeaps _ _ er5).wk (by decide) (by decide))
        obtain ⟨r6, er6, hf⟩ := ks_bind hf
        by_cases c7 : r6 = (-9 : Int32)
        · have hf := (if_pos c7).symm.trans hf
          replace hf := Option.some.inj hf
          subst hf
          exact g
        · have hf := (if_neg c7).symm.trans hf
          by_cases c8 : p2 = 0
          · have hf := (if_pos c8).symm.trans hf
            obtain ⟨r9, er9, hf⟩ := ks_nm hf
            replace hf := Option.some.inj hf
            subst hf
            exact g
          · have hf := (if_neg c8).symm.trans hf
            replace hf := Option.some.inj hf
            subst hf
            exact g
      · have hf := (if_neg c4).symm.trans hf
        replace hf := Option.some.inj hf
        subst hf
        exact g
set_option maxRecDepth 100000 in
theorem fr_X6_ask  (τ : Tau) (p1 : Int32) (R : (Int32 × Tau)) (hf : fX6_ask τ p1 = some R) : Fr [(17, 9), (18, 3), (18, 4), (18, 5), (26, 0)] [19, 20, 21, 22, 23, 24, 26] τ R.2 := by
  have L38 : ∀ (n38 : Nat) (τ : Tau) (x_3 : Int32) (x_4 : Int32) (x_5 : Int32) (x_6 : Int32), fX6_ask_38 p1 n38 τ x_3 x_4 x_5 x_6 = some R → Fr [(17, 9), (18, 3), (18, 4), (18, 5), (26, 0)] [19, 20, 21, 22, 23, 24, 26] τ R.2 := by
    intro n38
    induction n38 with
    | zero => intro τ x_3 x_4 x_5 x_6 hf; exact absurd hf (by rw [fX6_ask_38]; simp)
    | succ n38 ih38 =>
      have L83 : ∀ (τ : Tau) (x_3 : Int32) (x_4 : Int32) (x_5 : Int32) (x_6 : Int32), fX6_ask_83 p1 (fX6_ask_38 p1 n38) τ x_3 x_4 x_5 x_6 = some R → Fr [(17, 9), (18, 3), (18, 4), (18, 5), (26, 0)] [19, 20, 21, 22, 23, 24, 26] τ R.2 := by
        intro τ x_3 x_4 x_5 x_6 hf
        unfold fX6_ask_83 at hf
        have g : Fr [(17, 9), (18, 3), (18, 4), (18, 5), (26, 0)] [19, 20, 21, 22, 23, 24, 26] τ τ := Fr.rf
        obtain ⟨x11, ex11, hf⟩ := ks_nm hf
        exact g.tr (ih38 _ _ _ _ _ hf)
      intro τ x_3 x_4 x_5 x_6 hf
      rw [fX6_ask_38] at hf
      have g : Fr [(17, 9), (18, 3), (18, 4), (18, 5), (26, 0)] [19, 20, 21, 22, 23, 24, 26] τ τ := Fr.rf
      by_cases c7 : (10 : Int32) ≤ x_6
      · have hf := (if_pos c7).symm.trans hf
        replace hf := Option.some.inj hf
        subst hf
        exact g
      · have hf := (if_neg c7).symm.trans hf
        obtain ⟨r8, er8, hf⟩ := ks_bind hf
        obtain ⟨x9, ex9, hf⟩ := ks_nm hf
        by_cases c10 : x_5 ≤ x9
        · have hf := (if_pos c10).symm.trans hf
          exact g.tr (L83 _ _ _ _ _ hf)
        · have hf := (if_neg c10).symm.trans hf
          exact g.tr (L83 _ _ _ _ _ hf)
  unfold fX6_ask at hf
  have g : Fr [(17, 9), (18, 3), (18, 4), (18, 5), (26, 0)] [19, 20, 21, 22, 23, 24, 26] τ τ := Fr.rf
  obtain ⟨r1, er1, hf⟩ := ks_nm hf
  by_cases c2 : bI r1 = 0
  · have hf := (if_pos c2).symm.trans hf
    replace hf := Option.some.inj hf
    subst hf
    exact g
  · have hf := (if_neg c2).symm.trans hf
    obtain ⟨r3, er3, hf⟩ := ks_bind hf
    have g := g.tr ((fr_X6_freshHeaps _ _ er3).wk (by decide) (by decide))
    obtain ⟨r4, er4, hf⟩ := ks_bind hf
    by_cases c5 : r4 = 0
    · have hf := (if_pos c5).symm.trans hf
      replace hf := Option.some.inj hf
      subst hf
      exact g
    · have hf := (if_neg c5).symm.trans hf
      obtain ⟨x6, ex6, hf⟩ := ks_nm hf
      exact g.tr (L38 FU _ _ _ _ _ hf)
set_option maxRecDepth 100000 in
theorem fr_X6_heaps  (τ : Tau) (p1 : Int32) (R : (Int32 × Tau)) (hf : fX6_heaps τ p1 = some R) : Fr [(17, 9), (18, 3), (18, 4), (18, 5), (26, 0)] [19, 20, 21, 22, 23, 24, 26] τ R.2 := by
  unfold fX6_heaps at hf
  have g : Fr [(17, 9), (18, 3), (18, 4), (18, 5), (26, 0)] [19, 20, 21, 22, 23, 24, 26] τ τ := Fr.rf
  obtain ⟨r1, er1, hf⟩ := ks_nm hf
  by_cases c2 : bI r1 = 0
  · have hf := (if_pos c2).symm.trans hf
    replace hf := Option.some.inj hf
    subst hf
    exact g
  · have hf := (if_neg c2).symm.trans hf
    obtain ⟨r3, er3, hf⟩ := ks_bind hf
    have g := g.tr ((fr_X6_freshHeaps _ _ er3).wk (by decide) (by decide))
    obtain ⟨r4, er4, hf⟩ := ks_bind hf
    replace hf := Option.some.inj hf
    subst hf
    exact g
set_option maxRecDepth 100000 in
theorem fr_X6_twin  (τ : Tau) (p1 : Int32) (R : (Int32 × Tau)) (hf : fX6_twin τ p1 = some R) : Fr [(17, 9), (18, 3), (18, 4), (18, 5), (26, 0)] [19, 20, 21, 22, 23, 24, 26] τ R.2 := by
  have L17 : ∀ (n17 : Nat) (τ : Tau) (x_3 : Int32), fX6_twin_17 p1 n17 τ x_3 = some R → Fr [(17, 9), (18, 3), (18, 4), (18, 5), (26, 0)] [19, 20, 21, 22, 23, 24, 26] τ R.2 := by
    intro n17
    induction n17 with
    | zero => intro τ x_3 hf; exact absurd hf (by rw [fX6_twin_17]; simp)
    | succ n17 ih17 =>
      have L52 : ∀ (τ : Tau) (x_3 : Int32), fX6_twin_52 p1 (fX6_twin_17 p1 n17) τ x_3 = some R → Fr [(17, 9), (18, 3), (18, 4), (18, 5), (26, 0)] [19, 20, 21, 22, 23, 24, 26] τ R.2 := by
        intro τ x_3 hf
        unfold fX6_twin_52 at hf
        have g : Fr [(17, 9), (18, 3), (18, 4), (18, 5), (26, 0)] [19, 20, 21, 22, 23, 24, 26] τ τ := Fr.rf
        obtain ⟨x9, ex9, hf⟩ := ks_nm hf
        exact g.tr (ih17 _ _ hf)
      intro τ x_3 hf
      rw [fX6_twin_17] at hf
      have g : Fr [(17, 9), (18, 3), (18, 4), (18, 5), (26, 0)] [19, 20, 21, 22, 23, 24, 26] τ τ := Fr.rf
      by_cases c3 : (10 : Int32) ≤ x_3
      · have hf := (if_pos c3).symm.trans hf
        replace hf := Option.some.inj hf
        subst hf
        exact g
      · have hf := (if_neg c3).symm.trans hf
        by_cases c4 : x_3 = p1
        · have hf := (if_pos c4).symm.trans hf
          exact g.tr (L52 _ _ hf)
        · have hf := (if_neg c4).symm.trans hf
          obtain ⟨r5, er5, hf⟩ := ks_bind hf
          by_cases c6 : bI r5 = 0
          · have hf := (if_pos c6).symm.trans hf
            exact g.tr (L52 _ _ hf)
          · have hf := (if_neg c6).symm.trans hf
            obtain ⟨r7, er7, hf⟩ := ks_bind hf
            by_cases c8 : bI r7 = 0
            · have hf := (if_pos c8).symm.trans hf
              exact g.tr (L52 _ _ hf)
            · have hf := (if_neg c8).symm.trans hf
              replace hf := Option.some.inj hf
              subst hf
              exact g
  unfold fX6_twin at hf
  have g : Fr [(17, 9), (18, 3), (18, 4), (18, 5), (26, 0)] [19, 20, 21, 22, 23, 24, 26] τ τ := Fr.rf
  by_cases c1 : (p1 < 0 ∨ 10 ≤ p1.toNatClampNeg)
  · have hf := (if_pos c1).symm.trans hf
    replace hf := Option.some.inj hf
    subst hf
    exact g
  · have hf := (if_neg c1).symm.trans hf
    obtain ⟨r2, er2, hf⟩ := ks_bind hf
    have g := g.tr ((fr_X6_freshHeaps _ _ er2).wk (by decide) (by decide))
    exact g.tr (L17 FU _ _ hf)
set_option maxRecDepth 100000 in
theorem fr_X6_shown  (τ : Tau) (p1 : Int32) (p2 : Int32) (R : (Int32 × Tau)) (hf : fX6_shown τ p1 p2 = some R) : Fr [(17, 9), (18, 3), (18, 4), (18, 5), (26, 0), (27, 1), (27, 2), (27, 3), (27, 4), (27, 5), (27, 6), (27, 7)] [19, 20, 21, 22, 23, 24, 26, 28] τ R.2 := by
  unfold fX6_shown at hf
  have g : Fr [(17, 9), (18, 3), (18, 4), (18, 5), (26, 0), (27, 1), (27, 2), (27, 3), (27, 4), (27, 5), (27, 6), (27, 7)] [19, 20, 21, 22, 23, 24, 26, 28] τ τ := Fr.rf
  obtain ⟨r1, er1, hf⟩ := ks_nm hf
  by_cases c2 : bI r1 = 0
  · have hf := (if_pos c2).symm.trans hf
    replace hf := Option.some.inj hf
    subst hf
    exact g
  · have hf := (if_neg c2).symm.trans hf
    by_cases c3 : p2 < 0
    · have hf := (if_pos c3).symm.trans hf
      replace hf := Option.some.inj hf
      subst hf
      exact g
    · have hf := (if_neg c3).symm.trans hf
      by_cases c4 : p2 ≤ (3 : Int32)
      · have hf := (if_pos c4).symm.trans hf
        obtain ⟨r5, er5, hf⟩ := ks_bind hf
        have g := g.tr ((fr_X6_work _ _ _ er5).wk (by decide) (by decide))
        obtain ⟨r6, er6, hf⟩ := ks_bind hf
        by_cases c7 : p2 = (0 : Int32)
        · have hf := (if_pos c7).symm.trans hf
          obtain ⟨r10, er10, hf⟩ := ks_nm hf
          replace hf := Option.some.inj hf
          subst hf
          exact g
        · have hf := (if_neg c7).symm.trans hf
          by_cases c8 : p2 = (1 : Int32)
          · have hf := (if_pos c8).symm.trans hf
            replace hf := Option.some.inj hf
            subst hf
            exact g
          · have hf := (if_neg c8).symm.trans hf
            by_cases c9 : p2 = (2 : Int32)
            · have hf := (if_pos c9).symm.trans hf
              obtain ⟨r11, er11, hf⟩ := ks_nm hf
              obtain ⟨r12, er12, hf⟩ := ks_nm hf
              replace hf := Option.some.inj hf
              subst hf
              exact g
            · have hf := (if_neg c9).symm.trans hf
              obtain ⟨r13, er13, hf⟩ := ks_bind hf
              have g := g.tr ((fr_X6_freshHeaps _ _ er13).wk (by decide) (by decide))
              obtain ⟨r14, er14, hf⟩ := ks_bind hf
              have g := g.tr ((fr_X0_factsOf _ _ _ er14).wk (by decide) (by decide))
              obtain ⟨r15, er15, hf⟩ := ks_bind hf
              obtain ⟨r16, er16, hf⟩ := ks_nm hf
              replace hf := Option.some.inj hf
              subst hf
              exact g
      · have hf := (if_neg c4).symm.trans hf
        replace hf := Option.some.inj hf
        subst hf
        exact g
