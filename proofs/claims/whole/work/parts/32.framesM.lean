set_option maxRecDepth 100000 in
theorem fr_X7_begins  (τ : Tau) (R : Tau) (hf : fX7_begins τ = some R) : Fr [(0, 17)] [1, 3] τ R := by
  have L94 : ∀ (n94 : Nat) (τ : Tau) (x_1 : Int32), fX7_begins_94 n94 τ x_1 = some R → Fr [(0, 17)] [1, 3] τ R := by
    intro n94
    induction n94 with
    | zero => intro τ x_1 hf; exact absurd hf (by rw [fX7_begins_94]; simp)
    | succ n94 ih94 =>
      intro τ x_1 hf
      rw [fX7_begins_94] at hf
      have g : Fr [(0, 17)] [1, 3] τ τ := Fr.rf
      by_cases c17 : (16 : Int32) ≤ x_1
      · have hf := (if_pos c17).symm.trans hf
        obtain ⟨t18, et18, hf⟩ := ks_nm hf
        have g := g.tr (show Fr _ _ _ t18 by rw [et18]; exact Fr.sI (by decide))
        replace hf := Option.some.inj hf
        subst hf
        exact g
      · have hf := (if_neg c17).symm.trans hf
        obtain ⟨b19, hf⟩ := ks_ok hf
        obtain ⟨t20, et20, hf⟩ := ks_nm hf
        have g := g.tr (show Fr _ _ _ t20 by rw [et20]; exact Fr.sA (by decide))
        obtain ⟨x21, ex21, hf⟩ := ks_nm hf
        exact g.tr (ih94 _ _ hf)
  have L2 : ∀ (n2 : Nat) (τ : Tau) (x_1 : Int32), fX7_begins_2 n2 τ x_1 = some R → Fr [(0, 17)] [1, 3] τ R := by
    intro n2
    induction n2 with
    | zero => intro τ x_1 hf; exact absurd hf (by rw [fX7_begins_2]; simp)
    | succ n2 ih2 =>
      intro τ x_1 hf
      rw [fX7_begins_2] at hf
      have g : Fr [(0, 17)] [1, 3] τ τ := Fr.rf
      by_cases c1 : (10 : Int32) ≤ x_1
      · have hf := (if_pos c1).symm.trans hf
        exact g.tr (L94 FU _ _ hf)
      · have hf := (if_neg c1).symm.trans hf
        obtain ⟨b2, hf⟩ := ks_ok hf
        obtain ⟨t3, et3, hf⟩ := ks_nm hf
        have g := g.tr (show Fr _ _ _ t3 by rw [et3]; exact Fr.sA (by decide))
        obtain ⟨r4, er4, hf⟩ := ks_bind hf
        obtain ⟨b5, hf⟩ := ks_ok hf
        obtain ⟨t6, et6, hf⟩ := ks_nm hf
        have g := g.tr (show Fr _ _ _ t6 by rw [et6]; exact Fr.sA (by decide))
        obtain ⟨r7, er7, hf⟩ := ks_bind hf
        obtain ⟨b8, hf⟩ := ks_ok hf
        obtain ⟨t9, et9, hf⟩ := ks_nm hf
        have g := g.tr (show Fr _ _ _ t9 by rw [et9]; exact Fr.sA (by decide))
        obtain ⟨b10, hf⟩ := ks_ok hf
        obtain ⟨t11, et11, hf⟩ := ks_nm hf
        have g := g.tr (show Fr _ _ _ t11 by rw [et11]; exact Fr.sA (by decide))
        obtain ⟨b12, hf⟩ := ks_ok hf
        obtain ⟨t13, et13, hf⟩ := ks_nm hf
        have g := g.tr (show Fr _ _ _ t13 by rw [et13]; exact Fr.sA (by decide))
        obtain ⟨b14, hf⟩ := ks_ok hf
        obtain ⟨t15, et15, hf⟩ := ks_nm hf
        have g := g.tr (show Fr _ _ _ t15 by rw [et15]; exact Fr.sA (by decide))
        obtain ⟨x16, ex16, hf⟩ := ks_nm hf
        exact g.tr (ih2 _ _ hf)
  unfold fX7_begins at hf
  have g : Fr [(0, 17)] [1, 3] τ τ := Fr.rf
  exact g.tr (L2 FU _ _ hf)
set_option maxRecDepth 100000 in
theorem fr_X7_kinds  (τ : Tau) (p1 : Int32) (R : (Int32 × Tau)) (hf : fX7_kinds τ p1 = some R) : Fr [(0, 0), (0, 1), (0, 17)] [1, 3] τ R.2 := by
  unfold fX7_kinds at hf
  have g : Fr [(0, 0), (0, 1), (0, 17)] [1, 3] τ τ := Fr.rf
  obtain ⟨t1, et1, hf⟩ := ks_nm hf
  have g := g.tr (show Fr _ _ _ t1 by rw [et1]; exact Fr.sI (by decide))
  obtain ⟨r2, er2, hf⟩ := ks_nm hf
  by_cases c3 : bI r2 = 0
  · have hf := (if_pos c3).symm.trans hf
    replace hf := Option.some.inj hf
    subst hf
    exact g
  · have hf := (if_neg c3).symm.trans hf
    obtain ⟨x4, ex4, hf⟩ := ks_nm hf
    obtain ⟨t5, et5, hf⟩ := ks_nm hf
    have g := g.tr (show Fr _ _ _ t5 by rw [et5]; exact Fr.sI (by decide))
    obtain ⟨r6, er6, hf⟩ := ks_bind hf
    have g := g.tr ((fr_X7_begins _ _ er6).wk (by decide) (by decide))
    replace hf := Option.some.inj hf
    subst hf
    exact g
set_option maxRecDepth 100000 in
theorem fr_X7_most  (τ : Tau) (p1 : Int32) (R : (Int32 × Tau)) (hf : fX7_most τ p1 = some R) : Fr [(0, 0), (0, 2), (0, 17)] [] τ R.2 := by
  unfold fX7_most at hf
  have g : Fr [(0, 0), (0, 2), (0, 17)] [] τ τ := Fr.rf
  obtain ⟨t1, et1, hf⟩ := ks_nm hf
  have g := g.tr (show Fr _ _ _ t1 by rw [et1]; exact Fr.sI (by decide))
  obtain ⟨r2, er2, hf⟩ := ks_nm hf
  by_cases c3 : bI r2 = 0
  · have hf := (if_pos c3).symm.trans hf
    replace hf := Option.some.inj hf
    subst hf
    exact g
  · have hf := (if_neg c3).symm.trans hf
    obtain ⟨x4, ex4, hf⟩ := ks_nm hf
    obtain ⟨t5, et5, hf⟩ := ks_nm hf
    have g := g.tr (show Fr _ _ _ t5 by rw [et5]; exact Fr.sI (by decide))
    obtain ⟨t6, et6, hf⟩ := ks_nm hf
    have g := g.tr (show Fr _ _ _ t6 by rw [et6]; exact Fr.sI (by decide))
    replace hf := Option.some.inj hf
    subst hf
    exact g
set_option maxRecDepth 100000 in
theorem fr_X7_put  (τ : Tau) (p1 : Int32) (p2 : Int32) (R : (Int32 × Tau)) (hf : fX7_put τ p1 p2 = some R) : Fr [(0, 0)] [1] τ R.2 := by
  unfold fX7_put at hf
  have g : Fr [(0, 0)] [1] τ τ := Fr.rf
  obtain ⟨t1, et1, hf⟩ := ks_nm hf
  have g := g.tr (show Fr _ _ _ t1 by rw [et1]; exact Fr.sI (by decide))
  obtain ⟨r2, er2, hf⟩ := ks_nm hf
  obtain ⟨r3, er3, hf⟩ := ks_nm hf
  by_cases c4 : bI r3 = 0
  · have hf := (if_pos c4).symm.trans hf
    replace hf := Option.some.inj hf
    subst hf
    exact g
  · have hf := (if_neg c4).symm.trans hf
    obtain ⟨r5, er5, hf⟩ := ks_nm hf
    by_cases c6 : bI r5 = 0
    · have hf := (if_pos c6).symm.trans hf
      replace hf := Option.some.inj hf
      subst hf
      exact g
    · have hf := (if_neg c6).symm.trans hf
      obtain ⟨b7, hf⟩ := ks_ok hf
      obtain ⟨x8, ex8, hf⟩ := ks_nm hf
      obtain ⟨r9, er9, hf⟩ := ks_bind hf
      by_cases c10 : ((r9 - x8) + p2) ≤ (6 : Int32)
      · have hf := (if_pos c10).symm.trans hf
        obtain ⟨b11, hf⟩ := ks_ok hf
        obtain ⟨t12, et12, hf⟩ := ks_nm hf
        have g := g.tr (show Fr _ _ _ t12 by rw [et12]; exact Fr.sA (by decide))
        replace hf := Option.some.inj hf
        subst hf
        exact g
      · have hf := (if_neg c10).symm.trans hf
        replace hf := Option.some.inj hf
        subst hf
        exact g
set_option maxRecDepth 100000 in
theorem fr_X7_holds  (τ : Tau) (p1 : Int32) (R : (Int32 × Tau)) (hf : fX7_holds τ p1 = some R) : Fr [(0, 0)] [] τ R.2 := by
  unfold fX7_holds at hf
  have g : Fr [(0, 0)] [] τ τ := Fr.rf
  obtain ⟨t1, et1, hf⟩ := ks_nm hf
  have g := g.tr (show Fr _ _ _ t1 by rw [et1]; exact Fr.sI (by decide))
  obtain ⟨r2, er2, hf⟩ := ks_nm hf
  by_cases c3 : bI r2 = 0
  · have hf := (if_pos c3).symm.trans hf
    replace hf := Option.some.inj hf
    subst hf
    exact g
  · have hf := (if_neg c3).symm.trans hf
    obtain ⟨r4, er4, hf⟩ := ks_bind hf
    by_cases c5 : bI r4 = 0
    · have hf := (if_pos c5).symm.trans hf
      replace hf := Option.some.inj hf
      subst hf
      exact g
    · have hf := (if_neg c5).symm.trans hf
      replace hf := Option.some.inj hf
      subst hf
      exact g
set_option maxRecDepth 100000 in
theorem fr_X7_size  (τ : Tau) (p1 : Int32) (p2 : Int32) (R : (Int32 × Tau)) (hf : fX7_size τ p1 p2 = some R) : Fr [(0, 0)] [] τ R.2 := by
  have L71 : ∀ (τ : Tau) (z_0 : Int32), fX7_size_71 p1 p2 τ z_0 = some R → Fr [(0, 0)] [] τ R.2 := by
    intro τ z_0 hf
    unfold fX7_size_71 at hf
    have g : Fr [(0, 0)] [] τ τ := Fr.rf
    obtain ⟨r12, er12, hf⟩ := ks_bind hf
    replace hf := Option.some.inj hf
    subst hf
    exact g
  unfold fX7_size at hf
  have g : Fr [(0, 0)] [] τ τ := Fr.rf
  obtain ⟨t1, et1, hf⟩ := ks_nm hf
  have g := g.tr (show Fr _ _ _ t1 by rw [et1]; exact Fr.sI (by decide))
  obtain ⟨r2, er2, hf⟩ := ks_nm hf
  by_cases c3 : bI r2 = 0
  · have hf := (if_pos c3).symm.trans hf
    replace hf := Option.some.inj hf
    subst hf
    exact g
  · have hf := (if_neg c3).symm.trans hf
    obtain ⟨r4, er4, hf⟩ := ks_nm hf
    by_cases c5 : bI r4 = 0
    · have hf := (if_pos c5).symm.trans hf
      replace hf := Option.some.inj hf
      subst hf
      exact g
    · have hf := (if_neg c5).symm.trans hf
      obtain ⟨b6, hf⟩ := ks_ok hf
      obtain ⟨x7, ex7, hf⟩ := ks_nm hf
      obtain ⟨b8, hf⟩ := ks_ok hf
      obtain ⟨x9, ex9, hf⟩ := ks_nm hf
      by_cases c10 : p2 = 0
      · have hf := (if_pos c10).symm.trans hf
        exact g.tr (L71 _ _ hf)
      · have hf := (if_neg c10).symm.trans hf
        by_cases c11 : p2 = (1 : Int32)
        · have hf := (if_pos c11).symm.trans hf
          exact g.tr (L71 _ _ hf)
        · have hf := (if_neg c11).symm.trans hf
          exact g.tr (L71 _ _ hf)
set_option maxRecDepth 100000 in
theorem fr_X7_type  (τ : Tau) (p1 : Int64) (p2 : Int32) (R : (Int32 × Tau)) (hf : fX7_type τ p1 p2 = some R) : Fr [(0, 0), (0, 6)] [2] τ R.2 := by
  have L36 : ∀ (n36 : Nat) (τ : Tau) (x_4 : Int32), fX7_type_36 p1 p2 n36 τ x_4 = some R → Fr [(0, 0), (0, 6)] [2] τ R.2 := by
    intro n36
    induction n36 with
    | zero => intro τ x_4 hf; exact absurd hf (by rw [fX7_type_36]; simp)
    | succ n36 ih36 =>
      intro τ x_4 hf
      rw [fX7_type_36] at hf
      have g : Fr [(0, 0), (0, 6)] [2] τ τ := Fr.rf
      by_cases c6 : x_4 < 0
      · have hf := (if_pos c6).symm.trans hf
        replace hf := Option.some.inj hf
        subst hf
        exact g
      · have hf := (if_neg c6).symm.trans hf
        obtain ⟨b7, hf⟩ := ks_ok hf
        obtain ⟨t8, et8, hf⟩ := ks_nm hf
        have g := g.tr (show Fr _ _ _ t8 by rw [et8]; exact Fr.sA (by decide))
        obtain ⟨t9, et9, hf⟩ := ks_nm hf
        have g := g.tr (show Fr _ _ _ t9 by rw [et9]; exact Fr.sI (by decide))
        obtain ⟨x10, ex10, hf⟩ := ks_nm hf
        exact g.tr (ih36 _ _ hf)
  unfold fX7_type at hf
  have g : Fr [(0, 0), (0, 6)] [2] τ τ := Fr.rf
  obtain ⟨t1, et1, hf⟩ := ks_nm hf
  have g := g.tr (show Fr _ _ _ t1 by rw [et1]; exact Fr.sI (by decide))
  obtain ⟨r2, er2, hf⟩ := ks_nm hf
  by_cases c3 : bI r2 = 0
  · have hf := (if_pos c3).symm.trans hf
    replace hf := Option.some.inj hf
    subst hf
    exact g
  · have hf := (if_neg c3).symm.trans hf
    by_cases c4 : (tI t1 0 6 + p2) ≤ (80 : Int32)
    · have hf := (if_pos c4).symm.trans hf
      obtain ⟨x5, ex5, hf⟩ := ks_nm hf
      exact g.tr (L36 FU _ _ hf)
    · have hf := (if_neg c4).symm.trans hf
      replace hf := Option.some.inj hf
      subst hf
      exact g
set_option maxRecDepth 100000 in
theorem fr_X7_clear  (τ : Tau) (R : (Int32 × Tau)) (hf : fX7_clear τ = R) : Fr [(0, 0), (0, 6)] [] τ R.2 := by
  unfold fX7_clear at hf
  have g : Fr [(0, 0), (0, 6)] [] τ τ := Fr.rf
  obtain ⟨t1, et1, hf⟩ := ks_nm hf
  have g := g.tr (show Fr _ _ _ t1 by rw [et1]; exact Fr.sI (by decide))
  obtain ⟨x2, ex2, hf⟩ := ks_nm hf
  obtain ⟨t3, et3, hf⟩ := ks_nm hf
  have g := g.tr (show Fr _ _ _ t3 by rw [et3]; exact Fr.sI (by decide))
  subst hf
  exact g
set_option maxRecDepth 100000 in
theorem fr_X7_advances  (τ : Tau) (R : Tau) (hf : fX7_advances τ = some R) : Fr [(0, 7), (0, 8), (0, 9), (0, 10)] [] τ R := by
  have L350 : ∀ (τ : Tau) (z_0 : Int32), fX7_advances_350 τ z_0 = some R → Fr [(0, 7), (0, 8), (0, 9), (0, 10)] [] τ R := by
    intro τ z_0 hf
    unfold fX7_advances_350 at hf
    have g : Fr [(0, 7), (0, 8), (0, 9), (0, 10)] [] τ τ := Fr.rf
    by_cases c50 : z_0 = 0
    · have hf := (if_pos c50).symm.trans hf
      obtain ⟨t51, et51, hf⟩ := ks_nm hf
      have g := g.tr (show Fr _ _ _ t51 by rw [et51]; exact Fr.sI (by decide))
      replace hf := Option.some.inj hf
      subst hf
      exact g
    · have hf := (if_neg c50).symm.trans hf
      obtain ⟨t52, et52, hf⟩ := ks_nm hf
      have g := g.tr (show Fr _ _ _ t52 by rw [et52]; exact Fr.sI (by decide))
      replace hf := Option.some.inj hf
      subst hf
      exact g
  have L345 : ∀ (τ : Tau), fX7_advances_345 τ = some R → Fr [(0, 7), (0, 8), (0, 9), (0, 10)] [] τ R := by
    intro τ hf
    unfold fX7_advances_345 at hf
    have g : Fr [(0, 7), (0, 8), (0, 9), (0, 10)] [] τ τ := Fr.rf
    exact g.tr (L350 _ _ hf)
  have L187 : ∀ (n187 : Nat) (τ : Tau) (x_1 : Int32) (x_2 : Int32), fX7_advances_187 n187 τ x_1 x_2 = some R → Fr [(0, 7), (0, 8), (0, 9), (0, 10)] [] τ R := by
    intro n187
    induction n187 with
    | zero => intro τ x_1 x_2 hf; exact absurd hf (by rw [fX7_advances_187]; simp)
    | succ n187 ih187 =>
      have L241 : ∀ (τ : Tau) (x_1 : Int32) (x_2 : Int32) (z_0 : Int32), fX7_advances_241 (fX7_advances_187 n187) τ x_1 x_2 z_0 = some R → Fr [(0, 7), (0, 8), (0, 9), (0, 10)] [] τ R := by
        intro τ x_1 x_2 z_0 hf
        unfold fX7_advances_241 at hf
        have g : Fr [(0, 7), (0, 8), (0, 9), (0, 10)] [] τ τ := Fr.rf
        obtain ⟨t47, et47, hf⟩ := ks_nm hf
        have g := g.tr (show Fr _ _ _ t47 by rw [et47]; exact Fr.sI (by decide))
        obtain ⟨x48, ex48, hf⟩ := ks_nm hf
        obtain ⟨t49, et49, hf⟩ := ks_nm hf
        have g := g.tr (show Fr _ _ _ t49 by rw [et49]; exact Fr.sI (by decide))
        exact g.tr (ih187 _ _ _ hf)
      intro τ x_1 x_2 hf
      rw [fX7_advances_187] at hf
      have g : Fr [(0, 7), (0, 8), (0, 9), (0, 10)] [] τ τ := Fr.rf
      obtain ⟨r37, er37, hf⟩ := ks_bind hf
      obtain ⟨r38, er38, hf⟩ := ks_nm hf
      by_cases c39 : bI r38 = 0
      · have hf := (if_pos c39).symm.trans hf
        by_cases c40 : x_1 = (48 : Int32)
        · have hf := (if_pos c40).symm.trans hf
          by_cases c42 : x_2 ≤ (1 : Int32)
          · have hf := (if_pos c42).symm.trans hf
            obtain ⟨t43, et43, hf⟩ := ks_nm hf
            have g := g.tr (show Fr _ _ _ t43 by rw [et43]; exact Fr.sI (by decide))
            replace hf := Option.some.inj hf
            subst hf
            exact g
          · have hf := (if_neg c42).symm.trans hf
            obtain ⟨t44, et44, hf⟩ := ks_nm hf
            have g := g.tr (show Fr _ _ _ t44 by rw [et44]; exact Fr.sI (by decide))
            replace hf := Option.some.inj hf
            subst hf
            exact g
        · have hf := (if_neg c40).symm.trans hf
          obtain ⟨t41, et41, hf⟩ := ks_nm hf
          have g := g.tr (show Fr _ _ _ t41 by rw [et41]; exact Fr.sI (by decide))
          replace hf := Option.some.inj hf
          subst hf
          exact g
      · have hf := (if_neg c39).symm.trans hf
        by_cases c45 : tI τ 0 10 ≤ (99 : Int32)
        · have hf := (if_pos c45).symm.trans hf
          obtain ⟨r46, er46, hf⟩ := ks_bind hf
          exact g.tr (L241 _ _ _ _ hf)
        · have hf := (if_neg c45).symm.trans hf
          exact g.tr (L241 _ _ _ _ hf)
  have L145 : ∀ (τ : Tau) (z_0 : Int32), fX7_advances_145 τ z_0 = some R → Fr [(0, 7), (0, 8), (0, 9), (0, 10)] [] τ R := by
    intro τ z_0 hf
    unfold fX7_advances_145 at hf
    have g : Fr [(0, 7), (0, 8), (0, 9), (0, 10)] [] τ τ := Fr.rf
    obtain ⟨t33, et33, hf⟩ := ks_nm hf
    have g := g.tr (show Fr _ _ _ t33 by rw [et33]; exact Fr.sI (by decide))
    by_cases c34 : tI t33 0 10 = (-9 : Int32)
    · have hf := (if_pos c34).symm.trans hf
      obtain ⟨t36, et36, hf⟩ := ks_nm hf
      have g := g.tr (show Fr _ _ _ t36 by rw [et36]; exact Fr.sI (by decide))
      replace hf := Option.some.inj hf
      subst hf
      exact g
    · have hf := (if_neg c34).symm.trans hf
      obtain ⟨t35, et35, hf⟩ := ks_nm hf
      have g := g.tr (show Fr _ _ _ t35 by rw [et35]; exact Fr.sI (by decide))
      replace hf := Option.some.inj hf
      subst hf
      exact g
  have L71 : ∀ (n71 : Nat) (τ : Tau) (x_2 : Int64) (x_4 : Int32), fX7_advances_71 n71 τ x_2 x_4 = some R → Fr [(0, 7), (0, 8), (0, 9), (0, 10)] [] τ R := by
    intro n71
    induction n71 with
    | zero => intro τ x_2 x_4 hf; exact absurd hf (by rw [fX7_advances_71]; simp)
    | succ n71 ih71 =>
      have L111 : ∀ (τ : Tau) (x_4 : Int32) (z_0 : Int64), fX7_advances_111 (fX7_advances_71 n71) τ x_4 z_0 = some R → Fr [(0, 7), (0, 8), (0, 9), (0, 10)] [] τ R := by
        intro τ x_4 z_0 hf
        unfold fX7_advances_111 at hf
        have g : Fr [(0, 7), (0, 8), (0, 9), (0, 10)] [] τ τ := Fr.rf
        obtain ⟨x31, ex31, hf⟩ := ks_nm hf
        obtain ⟨t32, et32, hf⟩ := ks_nm hf
        have g := g.tr (show Fr _ _ _ t32 by rw [et32]; exact Fr.sI (by decide))
        exact g.tr (ih71 _ _ _ hf)
      intro τ x_2 x_4 hf
      rw [fX7_advances_71] at hf
      have g : Fr [(0, 7), (0, 8), (0, 9), (0, 10)] [] τ τ := Fr.rf
      obtain ⟨r23, er23, hf⟩ := ks_bind hf
      obtain ⟨r24, er24, hf⟩ := ks_nm hf
      by_cases c25 : bI r24 = 0
      · have hf := (if_pos c25).symm.trans hf
        by_cases c26 : (6 : Int32) ≤ x_4
        · have hf := (if_pos c26).symm.trans hf
          exact g.tr (L145 _ _ hf)
        · have hf := (if_neg c26).symm.trans hf
          obtain ⟨r27, er27, hf⟩ := ks_nm hf
          exact g.tr (L145 _ _ hf)
      · have hf := (if_neg c25).symm.trans hf
        by_cases c28 : (5 : Int32) ≤ x_4
        · have hf := (if_pos c28).symm.trans hf
          exact g.tr (L111 _ _ _ hf)
        · have hf := (if_neg c28).symm.trans hf
          obtain ⟨r29, er29, hf⟩ := ks_bind hf
          obtain ⟨r30, er30, hf⟩ := ks_nm hf
          exact g.tr (L111 _ _ _ hf)
  have L0 : ∀ (n0 : Nat) (τ : Tau), fX7_advances_0 n0 τ = some R → Fr [(0, 7), (0, 8), (0, 9), (0, 10)] [] τ R := by
    intro n0
    induction n0 with
    | zero => intro τ hf; exact absurd hf (by rw [fX7_advances_0]; simp)
    | succ n0 ih0 =>
      intro τ hf
      rw [fX7_advances_0] at hf
      have g : Fr [(0, 7), (0, 8), (0, 9), (0, 10)] [] τ τ := Fr.rf
      obtain ⟨r1, er1, hf⟩ := ks_bind hf
      by_cases c2 : r1 = (32 : Int32)
      · have hf := (if_pos c2).symm.trans hf
        obtain ⟨t22, et22, hf⟩ := ks_nm hf
        have g := g.tr (show Fr _ _ _ t22 by rw [et22]; exact Fr.sI (by decide))
        exact g.tr (ih0 _ hf)
      · have hf := (if_neg c2).symm.trans hf
        obtain ⟨t3, et3, hf⟩ := ks_nm hf
        have g := g.tr (show Fr _ _ _ t3 by rw [et3]; exact Fr.sI (by decide))
        obtain ⟨r4, er4, hf⟩ := ks_bind hf
        by_cases c5 : 0 ≤ r4
        · have hf := (if_pos c5).symm.trans hf
          obtain ⟨r6, er6, hf⟩ := ks_nm hf
          by_cases c7 : bI r6 = 0
          · have hf := (if_pos c7).symm.trans hf
            obtain ⟨r8, er8, hf⟩ := ks_nm hf
            by_cases c9 : bI r8 = 0
            · have hf := (if_pos c9).symm.trans hf
              obtain ⟨t10, et10, hf⟩ := ks_nm hf
              have g := g.tr (show Fr _ _ _ t10 by rw [et10]; exact Fr.sI (by decide))
              obtain ⟨t11, et11, hf⟩ := ks_nm hf
              have g := g.tr (show Fr _ _ _ t11 by rw [et11]; exact Fr.sI (by decide))
              obtain ⟨r12, er12, hf⟩ := ks_nm hf
              by_cases c13 : bI r12 = 0
              · have hf := (if_pos c13).symm.trans hf
                by_cases c14 : r4 = (58 : Int32)
                · have hf := (if_pos c14).symm.trans hf
                  exact g.tr (L345 _ hf)
                · have hf := (if_neg c14).symm.trans hf
                  by_cases c15 : r4 = (124 : Int32)
                  · have hf := (if_pos c15).symm.trans hf
                    exact g.tr (L345 _ hf)
                  · have hf := (if_neg c15).symm.trans hf
                    by_cases c16 : r4 = (38 : Int32)
                    · have hf := (if_pos c16).symm.trans hf
                      exact g.tr (L345 _ hf)
                    · have hf := (if_neg c16).symm.trans hf
                      by_cases c17 : r4 = (33 : Int32)
                      · have hf := (if_pos c17).symm.trans hf
                        exact g.tr (L345 _ hf)
                      · have hf := (if_neg c17).symm.trans hf
                        by_cases c18 : r4 = (40 : Int32)
                        · have hf := (if_pos c18).symm.trans hf
                          exact g.tr (L345 _ hf)
                        · have hf := (if_neg c18).symm.trans hf
                          by_cases c19 : r4 = (41 : Int32)
                          · have hf := (if_pos c19).symm.trans hf
                            exact g.tr (L345 _ hf)
                          · have hf := (if_neg c19).symm.trans hf
                            exact g.tr (L350 _ _ hf)
              · have hf := (if_neg c13).symm.trans hf
                exact g.tr (L345 _ hf)
            · have hf := (if_neg c9).symm.trans hf
              obtain ⟨t20, et20, hf⟩ := ks_nm hf
              have g := g.tr (show Fr _ _ _ t20 by rw [et20]; exact Fr.sI (by decide))
              exact g.tr (L187 FU _ _ _ hf)
          · have hf := (if_neg c7).symm.trans hf
            exact g.tr (L71 FU _ _ _ hf)
        · have hf := (if_neg c5).symm.trans hf
          obtain ⟨t21, et21, hf⟩ := ks_nm hf
          have g := g.tr (show Fr _ _ _ t21 by rw [et21]; exact Fr.sI (by decide))
          replace hf := Option.some.inj hf
          subst hf
          exact g
  unfold fX7_advances at hf
  have g : Fr [(0, 7), (0, 8), (0, 9), (0, 10)] [] τ τ := Fr.rf
  exact g.tr (L0 FU _ hf)
set_option maxRecDepth 100000 in
theorem fr_X7_fails  (τ : Tau) (R : Tau) (hf : fX7_fails τ = R) : Fr [(0, 11)] [] τ R := by
  unfold fX7_fails at hf
  have g : Fr [(0, 11)] [] τ τ := Fr.rf
  by_cases c1 : 0 ≤ tI τ 0 11
  · have hf := (if_pos c1).symm.trans hf
    obtain ⟨t2, et2, hf⟩ := ks_nm hf
    have g := g.tr (show Fr _ _ _ t2 by rw [et2]; exact Fr.sI (by decide))
    subst hf
    exact g
  · have hf := (if_neg c1).symm.trans hf
    obtain ⟨t3, et3, hf⟩ := ks_nm hf
    have g := g.tr (show Fr _ _ _ t3 by rw [et3]; exact Fr.sI (by decide))
    subst hf
    exact g
set_option maxRecDepth 100000 in
theorem fr_X7_side  (τ : Tau) (R : (Int32 × Tau)) (hf : fX7_side τ = some R) : Fr [(0, 7), (0, 8), (0, 9), (0, 10), (0, 11), (0, 12), (0, 16)] [4, 5] τ R.2 := by
  have L543 : ∀ (τ : Tau), fX7_side_543 τ = some R → Fr [(0, 7), (0, 8), (0, 9), (0, 10), (0, 11), (0, 12), (0, 16)] [4, 5] τ R.2 := by
    intro τ hf
    unfold fX7_side_543 at hf
    have g : Fr [(0, 7), (0, 8), (0, 9), (0, 10), (0, 11), (0, 12), (0, 16)] [4, 5] τ τ := Fr.rf
    obtain ⟨b100, hf⟩ := ks_ok hf
    replace hf := Option.some.inj hf
    subst hf
    exact g
  have L492 : ∀ (n492 : Nat) (τ : Tau) (x_1 : Int32) (x_2 : Int32), fX7_side_492 n492 τ x_1 x_2 = some R → Fr [(0, 7), (0, 8), (0, 9), (0, 10), (0, 11), (0, 12), (0, 16)] [4, 5] τ R.2 := by
    intro n492
    induction n492 with
    | zero => intro τ x_1 x_2 hf; exact absurd hf (by rw [fX7_side_492]; simp)
    | succ n492 ih492 =>
      intro τ x_1 x_2 hf
      rw [fX7_side_492] at hf
      have g : Fr [(0, 7), (0, 8), (0, 9), (0, 10), (0, 11), (0, 12), (0, 16)] [4, 5] τ τ := Fr.rf
      obtain ⟨r89, er89, hf⟩ := ks_nm hf
      by_cases c90 : bI r89 = 0
      · have hf := (if_pos c90).symm.trans hf
        exact g.tr (L543 _ hf)
      · have hf := (if_neg c90).symm.trans hf
        by_cases c91 : x_2 ≤ 0
        · have hf := (if_pos c91).symm.trans hf
          exact g.tr (L543 _ hf)
        · have hf := (if_neg c91).symm.trans hf
          obtain ⟨x92, ex92, hf⟩ := ks_nm hf
          obtain ⟨x93, ex93, hf⟩ := ks_nm hf
          obtain ⟨b94, hf⟩ := ks_ok hf
          obtain ⟨b95, hf⟩ := ks_ok hf
          obtain ⟨b96, hf⟩ := ks_ok hf
          obtain ⟨r97, er97, hf⟩ := ks_nm hf
          obtain ⟨b98, hf⟩ := ks_ok hf
          obtain ⟨t99, et99, hf⟩ := ks_nm hf
          have g := g.tr (show Fr _ _ _ t99 by rw [et99]; exact Fr.sA (by decide))
          exact g.tr (ih492 _ _ _ hf)
  have L473 : ∀ (τ : Tau) (x_1 : Int32) (x_2 : Int32), fX7_side_473 τ x_1 x_2 = some R → Fr [(0, 7), (0, 8), (0, 9), (0, 10), (0, 11), (0, 12), (0, 16)] [4, 5] τ R.2 := by
    intro τ x_1 x_2 hf
    unfold fX7_side_473 at hf
    have g : Fr [(0, 7), (0, 8), (0, 9), (0, 10), (0, 11), (0, 12), (0, 16)] [4, 5] τ τ := Fr.rf
    obtain ⟨r84, er84, hf⟩ := ks_nm hf
    by_cases c85 : bI r84 = 0
    · have hf := (if_pos c85).symm.trans hf
      exact g.tr (L492 FU _ _ _ hf)
    · have hf := (if_neg c85).symm.trans hf
      obtain ⟨r86, er86, hf⟩ := ks_bind hf
      by_cases c87 : bI r86 = 0
      · have hf := (if_pos c87).symm.trans hf
        exact g.tr (L492 FU _ _ _ hf)
      · have hf := (if_neg c87).symm.trans hf
        obtain ⟨r88, er88, hf⟩ := ks_nm hf
        have g := g.tr ((fr_X7_fails _ _ er88.symm).wk (by decide) (by decide))
        exact g.tr (L492 FU _ _ _ hf)
  have L21 : ∀ (n21 : Nat) (τ : Tau) (x_1 : Int32) (x_2 : Int32) (x_3 : Int32) (x_4 : Int32) (x_5 : Int32) (x_6 : Int32), fX7_side_21 n21 τ x_1 x_2 x_3 x_4 x_5 x_6 = some R → Fr [(0, 7), (0, 8), (0, 9), (0, 10), (0, 11), (0, 12), (0, 16)] [4, 5] τ R.2 := by
    intro n21
    induction n21 with
    | zero => intro τ x_1 x_2 x_3 x_4 x_5 x_6 hf; exact absurd hf (by rw [fX7_side_21]; simp)
    | succ n21 ih21 =>
      have L419 : ∀ (n419 : Nat) (τ : Tau) (x_1 : Int32) (x_2 : Int32) (x_3 : Int32) (x_4 : Int32) (x_5 : Int32) (x_6 : Int32), fX7_side_419 (fX7_side_21 n21) n419 τ x_1 x_2 x_3 x_4 x_5 x_6 = some R → Fr [(0, 7), (0, 8), (0, 9), (0, 10), (0, 11), (0, 12), (0, 16)] [4, 5] τ R.2 := by
        intro n419
        induction n419 with
        | zero => intro τ x_1 x_2 x_3 x_4 x_5 x_6 hf; exact absurd hf (by rw [fX7_side_419]; simp)
        | succ n419 ih419 =>
          intro τ x_1 x_2 x_3 x_4 x_5 x_6 hf
          rw [fX7_side_419] at hf
          have g : Fr [(0, 7), (0, 8), (0, 9), (0, 10), (0, 11), (0, 12), (0, 16)] [4, 5] τ τ := Fr.rf
          by_cases c22 : x_4 = 0
          · have hf := (if_pos c22).symm.trans hf
            by_cases c23 : x_2 ≤ 0
            · have hf := (if_pos c23).symm.trans hf
              exact g.tr (ih21 _ _ _ _ _ _ _ hf)
            · have hf := (if_neg c23).symm.trans hf
              obtain ⟨b24, hf⟩ := ks_ok hf
              by_cases c25 : tA τ 5 (x_2 - (1 : Int32)).toNatClampNeg = (33 : Int32)
              · have hf := (if_pos c25).symm.trans hf
                obtain ⟨x26, ex26, hf⟩ := ks_nm hf
                obtain ⟨x27, ex27, hf⟩ := ks_nm hf
                obtain ⟨r28, er28, hf⟩ := ks_nm hf
                obtain ⟨b29, hf⟩ := ks_ok hf
                obtain ⟨b30, hf⟩ := ks_ok hf
                obtain ⟨t31, et31, hf⟩ := ks_nm hf
                have g := g.tr (show Fr _ _ _ t31 by rw [et31]; exact Fr.sA (by decide))
                exact g.tr (ih419 _ _ _ _ _ _ _ hf)
              · have hf := (if_neg c25).symm.trans hf
                exact g.tr (ih21 _ _ _ _ _ _ _ hf)
          · have hf := (if_neg c22).symm.trans hf
            exact g.tr (ih21 _ _ _ _ _ _ _ hf)
      have L416 : ∀ (τ : Tau) (x_1 : Int32) (x_2 : Int32) (x_3 : Int32) (x_4 : Int32) (x_6 : Int32), fX7_side_416 (fX7_side_21 n21) τ x_1 x_2 x_3 x_4 x_6 = some R → Fr [(0, 7), (0, 8), (0, 9), (0, 10), (0, 11), (0, 12), (0, 16)] [4, 5] τ R.2 := by
        intro τ x_1 x_2 x_3 x_4 x_6 hf
        unfold fX7_side_416 at hf
        have g : Fr [(0, 7), (0, 8), (0, 9), (0, 10), (0, 11), (0, 12), (0, 16)] [4, 5] τ τ := Fr.rf
        exact g.tr (L419 FU _ _ _ _ _ _ _ hf)
      have L350 : ∀ (n350 : Nat) (τ : Tau) (x_1 : Int32) (x_2 : Int32) (x_3 : Int32) (x_4 : Int32) (x_5 : Int32) (x_6 : Int32), fX7_side_350 (fX7_side_21 n21) n350 τ x_1 x_2 x_3 x_4 x_5 x_6 = some R → Fr [(0, 7), (0, 8), (0, 9), (0, 10), (0, 11), (0, 12), (0, 16)] [4, 5] τ R.2 := by
        intro n350
        induction n350 with
        | zero => intro τ x_1 x_2 x_3 x_4 x_5 x_6 hf; exact absurd hf (by rw [fX7_side_350]; simp)
        | succ n350 ih350 =>
          intro τ x_1 x_2 x_3 x_4 x_5 x_6 hf
          rw [fX7_side_350] at hf
          have g : Fr [(0, 7), (0, 8), (0, 9), (0, 10), (0, 11), (0, 12), (0, 16)] [4, 5] τ τ := Fr.rf
          obtain ⟨b52, hf⟩ := ks_ok hf
          by_cases c53 : tA τ 5 (x_2 - (1 : Int32)).toNatClampNeg = (40 : Int32)
          · have hf := (if_pos c53).symm.trans hf
            obtain ⟨x54, ex54, hf⟩ := ks_nm hf
            obtain ⟨x55, ex55, hf⟩ := ks_nm hf
            obtain ⟨r56, er56, hf⟩ := ks_bind hf
            have g := g.tr ((fr_X7_advances _ _ er56).wk (by decide) (by decide))
            exact g.tr (L419 FU _ _ _ _ _ _ _ hf)
          · have hf := (if_neg c53).symm.trans hf
            obtain ⟨x57, ex57, hf⟩ := ks_nm hf
            obtain ⟨x58, ex58, hf⟩ := ks_nm hf
            obtain ⟨b59, hf⟩ := ks_ok hf
            obtain ⟨b60, hf⟩ := ks_ok hf
            obtain ⟨b61, hf⟩ := ks_ok hf
            obtain ⟨r62, er62, hf⟩ := ks_nm hf
            obtain ⟨b63, hf⟩ := ks_ok hf
            obtain ⟨t64, et64, hf⟩ := ks_nm hf
            have g := g.tr (show Fr _ _ _ t64 by rw [et64]; exact Fr.sA (by decide))
            exact g.tr (ih350 _ _ _ _ _ _ _ hf)
      have L304 : ∀ (τ : Tau) (x_1 : Int32) (x_2 : Int32) (x_3 : Int32) (x_5 : Int32) (x_6 : Int32), fX7_side_304 (fX7_side_21 n21) τ x_1 x_2 x_3 x_5 x_6 = some R → Fr [(0, 7), (0, 8), (0, 9), (0, 10), (0, 11), (0, 12), (0, 16)] [4, 5] τ R.2 := by
        intro τ x_1 x_2 x_3 x_5 x_6 hf
        unfold fX7_side_304 at hf
        have g : Fr [(0, 7), (0, 8), (0, 9), (0, 10), (0, 11), (0, 12), (0, 16)] [4, 5] τ τ := Fr.rf
        obtain ⟨b79, hf⟩ := ks_ok hf
        obtain ⟨t80, et80, hf⟩ := ks_nm hf
        have g := g.tr (show Fr _ _ _ t80 by rw [et80]; exact Fr.sA (by decide))
        obtain ⟨x81, ex81, hf⟩ := ks_nm hf
        obtain ⟨t82, et82, hf⟩ := ks_nm hf
        have g := g.tr (show Fr _ _ _ t82 by rw [et82]; exact Fr.sI (by decide))
        obtain ⟨r83, er83, hf⟩ := ks_bind hf
        have g := g.tr ((fr_X7_advances _ _ er83).wk (by decide) (by decide))
        exact g.tr (L419 FU _ _ _ _ _ _ _ hf)
      have L225 : ∀ (n225 : Nat) (τ : Tau) (x_1 : Int32) (x_2 : Int32) (x_3 : Int32) (x_5 : Int32) (x_6 : Int32), fX7_side_225 (fX7_side_21 n21) n225 τ x_1 x_2 x_3 x_5 x_6 = some R → Fr [(0, 7), (0, 8), (0, 9), (0, 10), (0, 11), (0, 12), (0, 16)] [4, 5] τ R.2 := by
        intro n225
        induction n225 with
        | zero => intro τ x_1 x_2 x_3 x_5 x_6 hf; exact absurd hf (by rw [fX7_side_225]; simp)
        | succ n225 ih225 =>
          have L264 : ∀ (τ : Tau) (x_1 : Int32) (x_2 : Int32) (x_3 : Int32) (x_5 : Int32) (x_6 : Int32), fX7_side_264 (fX7_side_21 n21) (fX7_side_225 (fX7_side_21 n21) n225) τ x_1 x_2 x_3 x_5 x_6 = some R → Fr [(0, 7), (0, 8), (0, 9), (0, 10), (0, 11), (0, 12), (0, 16)] [4, 5] τ R.2 := by
            intro τ x_1 x_2 x_3 x_5 x_6 hf
            unfold fX7_side_264 at hf
            have g : Fr [(0, 7), (0, 8), (0, 9), (0, 10), (0, 11), (0, 12), (0, 16)] [4, 5] τ τ := Fr.rf
            obtain ⟨x71, ex71, hf⟩ := ks_nm hf
            obtain ⟨x72, ex72, hf⟩ := ks_nm hf
            obtain ⟨b73, hf⟩ := ks_ok hf
            obtain ⟨b74, hf⟩ := ks_ok hf
            obtain ⟨b75, hf⟩ := ks_ok hf
            obtain ⟨r76, er76, hf⟩ := ks_nm hf
            obtain ⟨b77, hf⟩ := ks_ok hf
            obtain ⟨t78, et78, hf⟩ := ks_nm hf
            have g := g.tr (show Fr _ _ _ t78 by rw [et78]; exact Fr.sA (by decide))
            exact g.tr (ih225 _ _ _ _ _ _ hf)
          intro τ x_1 x_2 x_3 x_5 x_6 hf
          rw [fX7_side_225] at hf
          have g : Fr [(0, 7), (0, 8), (0, 9), (0, 10), (0, 11), (0, 12), (0, 16)] [4, 5] τ τ := Fr.rf
          by_cases c65 : x_2 ≤ 0
          · have hf := (if_pos c65).symm.trans hf
            exact g.tr (L304 _ _ _ _ _ _ hf)
          · have hf := (if_neg c65).symm.trans hf
            obtain ⟨b66, hf⟩ := ks_ok hf
            by_cases c67 : tA τ 5 (x_2 - (1 : Int32)).toNatClampNeg = (38 : Int32)
            · have hf := (if_pos c67).symm.trans hf
              exact g.tr (L264 _ _ _ _ _ _ hf)
            · have hf := (if_neg c67).symm.trans hf
              by_cases c68 : tI τ 0 10 = (124 : Int32)
              · have hf := (if_pos c68).symm.trans hf
                obtain ⟨b69, hf⟩ := ks_ok hf
                by_cases c70 : tA τ 5 (x_2 - (1 : Int32)).toNatClampNeg = (124 : Int32)
                · have hf := (if_pos c70).symm.trans hf
                  exact g.tr (L264 _ _ _ _ _ _ hf)
                · have hf := (if_neg c70).symm.trans hf
                  exact g.tr (L304 _ _ _ _ _ _ hf)
              · have hf := (if_neg c68).symm.trans hf
                exact g.tr (L304 _ _ _ _ _ _ hf)
      have L204 : ∀ (τ : Tau) (x_1 : Int32) (x_2 : Int32) (x_3 : Int32) (x_4 : Int32) (x_5 : Int32) (x_6 : Int32), fX7_side_204 (fX7_side_21 n21) τ x_1 x_2 x_3 x_4 x_5 x_6 = some R → Fr [(0, 7), (0, 8), (0, 9), (0, 10), (0, 11), (0, 12), (0, 16)] [4, 5] τ R.2 := by
        intro τ x_1 x_2 x_3 x_4 x_5 x_6 hf
        unfold fX7_side_204 at hf
        have g : Fr [(0, 7), (0, 8), (0, 9), (0, 10), (0, 11), (0, 12), (0, 16)] [4, 5] τ τ := Fr.rf
        exact g.tr (L419 FU _ _ _ _ _ _ _ hf)
      have L161 : ∀ (τ : Tau) (x_1 : Int32) (x_2 : Int32) (x_3 : Int32) (x_5 : Int32) (x_6 : Int32) (z_0 : Int32), fX7_side_161 (fX7_side_21 n21) τ x_1 x_2 x_3 x_5 x_6 z_0 = some R → Fr [(0, 7), (0, 8), (0, 9), (0, 10), (0, 11), (0, 12), (0, 16)] [4, 5] τ R.2 := by
        intro τ x_1 x_2 x_3 x_5 x_6 z_0 hf
        unfold fX7_side_161 at hf
        have g : Fr [(0, 7), (0, 8), (0, 9), (0, 10), (0, 11), (0, 12), (0, 16)] [4, 5] τ τ := Fr.rf
        obtain ⟨t44, et44, hf⟩ := ks_nm hf
        have g := g.tr (show Fr _ _ _ t44 by rw [et44]; exact Fr.sI (by decide))
        obtain ⟨r45, er45, hf⟩ := ks_bind hf
        obtain ⟨b46, hf⟩ := ks_ok hf
        obtain ⟨t47, et47, hf⟩ := ks_nm hf
        have g := g.tr (show Fr _ _ _ t47 by rw [et47]; exact Fr.sA (by decide))
        obtain ⟨x48, ex48, hf⟩ := ks_nm hf
        obtain ⟨t49, et49, hf⟩ := ks_nm hf
        have g := g.tr (show Fr _ _ _ t49 by rw [et49]; exact Fr.sI (by decide))
        obtain ⟨x50, ex50, hf⟩ := ks_nm hf
        obtain ⟨r51, er51, hf⟩ := ks_bind hf
        have g := g.tr ((fr_X7_advances _ _ er51).wk (by decide) (by decide))
        exact g.tr (L204 _ _ _ _ _ _ _ hf)
      have L102 : ∀ (τ : Tau) (x_1 : Int32) (x_2 : Int32) (x_3 : Int32) (x_4 : Int32) (x_5 : Int32) (x_6 : Int32) (x_7 : Int32), fX7_side_102 (fX7_side_21 n21) τ x_1 x_2 x_3 x_4 x_5 x_6 x_7 = some R → Fr [(0, 7), (0, 8), (0, 9), (0, 10), (0, 11), (0, 12), (0, 16)] [4, 5] τ R.2 := by
        intro τ x_1 x_2 x_3 x_4 x_5 x_6 x_7 hf
        unfold fX7_side_102 at hf
        have g : Fr [(0, 7), (0, 8), (0, 9), (0, 10), (0, 11), (0, 12), (0, 16)] [4, 5] τ τ := Fr.rf
        by_cases c35 : x_7 = 0
        · have hf := (if_pos c35).symm.trans hf
          by_cases c36 : x_6 = 0
          · have hf := (if_pos c36).symm.trans hf
            exact g.tr (L161 _ _ _ _ _ _ _ hf)
          · have hf := (if_neg c36).symm.trans hf
            exact g.tr (L161 _ _ _ _ _ _ _ hf)
        · have hf := (if_neg c35).symm.trans hf
          obtain ⟨b37, hf⟩ := ks_ok hf
          obtain ⟨t38, et38, hf⟩ := ks_nm hf
          have g := g.tr (show Fr _ _ _ t38 by rw [et38]; exact Fr.sA (by decide))
          obtain ⟨x39, ex39, hf⟩ := ks_nm hf
          obtain ⟨x40, ex40, hf⟩ := ks_nm hf
          obtain ⟨t41, et41, hf⟩ := ks_nm hf
          have g := g.tr (show Fr _ _ _ t41 by rw [et41]; exact Fr.sI (by decide))
          obtain ⟨x42, ex42, hf⟩ := ks_nm hf
          obtain ⟨r43, er43, hf⟩ := ks_bind hf
          have g := g.tr ((fr_X7_advances _ _ er43).wk (by decide) (by decide))
          exact g.tr (L204 _ _ _ _ _ _ _ hf)
      have L95 : ∀ (τ : Tau) (x_1 : Int32) (x_2 : Int32) (x_3 : Int32) (x_4 : Int32) (x_5 : Int32) (x_6 : Int32), fX7_side_95 (fX7_side_21 n21) τ x_1 x_2 x_3 x_4 x_5 x_6 = some R → Fr [(0, 7), (0, 8), (0, 9), (0, 10), (0, 11), (0, 12), (0, 16)] [4, 5] τ R.2 := by
        intro τ x_1 x_2 x_3 x_4 x_5 x_6 hf
        unfold fX7_side_95 at hf
        have g : Fr [(0, 7), (0, 8), (0, 9), (0, 10), (0, 11), (0, 12), (0, 16)] [4, 5] τ τ := Fr.rf
        obtain ⟨r21, er21, hf⟩ := ks_nm hf
        have g := g.tr ((fr_X7_fails _ _ er21.symm).wk (by decide) (by decide))
        exact g.tr (L204 _ _ _ _ _ _ _ hf)
      have L75 : ∀ (τ : Tau) (x_1 : Int32) (x_2 : Int32) (x_3 : Int32) (x_4 : Int32) (x_5 : Int32) (x_6 : Int32) (x_7 : Int32), fX7_side_75 (fX7_side_21 n21) τ x_1 x_2 x_3 x_4 x_5 x_6 x_7 = some R → Fr [(0, 7), (0, 8), (0, 9), (0, 10), (0, 11), (0, 12), (0, 16)] [4, 5] τ R.2 := by
        intro τ x_1 x_2 x_3 x_4 x_5 x_6 x_7 hf
        unfold fX7_side_75 at hf
        have g : Fr [(0, 7), (0, 8), (0, 9), (0, 10), (0, 11), (0, 12), (0, 16)] [4, 5] τ τ := Fr.rf
        by_cases c32 : tI τ 0 12 = (24 : Int32)
        · have hf := (if_pos c32).symm.trans hf
          exact g.tr (L95 _ _ _ _ _ _ _ hf)
        · have hf := (if_neg c32).symm.trans hf
          by_cases c33 : x_7 = 0
          · have hf := (if_pos c33).symm.trans hf
            exact g.tr (L102 _ _ _ _ _ _ _ _ hf)
          · have hf := (if_neg c33).symm.trans hf
            by_cases c34 : x_3 = (8 : Int32)
            · have hf := (if_pos c34).symm.trans hf
              exact g.tr (L95 _ _ _ _ _ _ _ hf)
            · have hf := (if_neg c34).symm.trans hf
              exact g.tr (L102 _ _ _ _ _ _ _ _ hf)
      have L61 : ∀ (τ : Tau) (x_1 : Int32) (x_2 : Int32) (x_3 : Int32) (x_4 : Int32) (x_5 : Int32) (x_6 : Int32) (z_0 : Int32), fX7_side_61 (fX7_side_21 n21) τ x_1 x_2 x_3 x_4 x_5 x_6 z_0 = some R → Fr [(0, 7), (0, 8), (0, 9), (0, 10), (0, 11), (0, 12), (0, 16)] [4, 5] τ R.2 := by
        intro τ x_1 x_2 x_3 x_4 x_5 x_6 z_0 hf
        unfold fX7_side_61 at hf
        have g : Fr [(0, 7), (0, 8), (0, 9), (0, 10), (0, 11), (0, 12), (0, 16)] [4, 5] τ τ := Fr.rf
        by_cases c18 : z_0 = 0
        · have hf := (if_pos c18).symm.trans hf
          obtain ⟨r19, er19, hf⟩ := ks_nm hf
          by_cases c20 : bI r19 = 0
          · have hf := (if_pos c20).symm.trans hf
            exact g.tr (L95 _ _ _ _ _ _ _ hf)
          · have hf := (if_neg c20).symm.trans hf
            exact g.tr (L75 _ _ _ _ _ _ _ _ hf)
        · have hf := (if_neg c18).symm.trans hf
          exact g.tr (L75 _ _ _ _ _ _ _ _ hf)
      have L56 : ∀ (τ : Tau) (x_1 : Int32) (x_2 : Int32) (x_3 : Int32) (x_4 : Int32) (x_5 : Int32) (x_6 : Int32), fX7_side_56 (fX7_side_21 n21) τ x_1 x_2 x_3 x_4 x_5 x_6 = some R → Fr [(0, 7), (0, 8), (0, 9), (0, 10), (0, 11), (0, 12), (0, 16)] [4, 5] τ R.2 := by
        intro τ x_1 x_2 x_3 x_4 x_5 x_6 hf
        unfold fX7_side_56 at hf
        have g : Fr [(0, 7), (0, 8), (0, 9), (0, 10), (0, 11), (0, 12), (0, 16)] [4, 5] τ τ := Fr.rf
        exact g.tr (L61 _ _ _ _ _ _ _ _ hf)
      intro τ x_1 x_2 x_3 x_4 x_5 x_6 hf
      rw [fX7_side_21] at hf
      have g : Fr [(0, 7), (0, 8), (0, 9), (0, 10), (0, 11), (0, 12), (0, 16)] [4, 5] τ τ := Fr.rf
      by_cases c2 : x_5 = 0
      · have hf := (if_pos c2).symm.trans hf
        exact g.tr (L473 _ _ _ hf)
      · have hf := (if_neg c2).symm.trans hf
        obtain ⟨r3, er3, hf⟩ := ks_nm hf
        by_cases c4 : bI r3 = 0
        · have hf := (if_pos c4).symm.trans hf
          exact g.tr (L473 _ _ _ hf)
        · have hf := (if_neg c4).symm.trans hf
          by_cases c5 : x_4 = 0
          · have hf := (if_pos c5).symm.trans hf
            obtain ⟨r6, er6, hf⟩ := ks_nm hf
            by_cases c7 : bI r6 = 0
            · have hf := (if_pos c7).symm.trans hf
              obtain ⟨r8, er8, hf⟩ := ks_nm hf
              by_cases c9 : bI r8 = 0
              · have hf := (if_pos c9).symm.trans hf
                obtain ⟨r10, er10, hf⟩ := ks_nm hf
                by_cases c11 : bI r10 = 0
                · have hf := (if_pos c11).symm.trans hf
                  exact g.tr (L416 _ _ _ _ _ _ hf)
                · have hf := (if_neg c11).symm.trans hf
                  obtain ⟨r12, er12, hf⟩ := ks_bind hf
                  by_cases c13 : bI r12 = 0
                  · have hf := (if_pos c13).symm.trans hf
                    exact g.tr (L416 _ _ _ _ _ _ hf)
                  · have hf := (if_neg c13).symm.trans hf
                    exact g.tr (L350 FU _ _ _ _ _ _ _ hf)
              · have hf := (if_neg c9).symm.trans hf
                exact g.tr (L225 FU _ _ _ _ _ _ hf)
            · have hf := (if_neg c7).symm.trans hf
              exact g.tr (L225 FU _ _ _ _ _ _ hf)
          · have hf := (if_neg c5).symm.trans hf
            obtain ⟨r14, er14, hf⟩ := ks_nm hf
            by_cases c15 : bI r14 = 0
            · have hf := (if_pos c15).symm.trans hf
              obtain ⟨r16, er16, hf⟩ := ks_nm hf
              by_cases c17 : bI r16 = 0
              · have hf := (if_pos c17).symm.trans hf
                exact g.tr (L61 _ _ _ _ _ _ _ _ hf)
              · have hf := (if_neg c17).symm.trans hf
                exact g.tr (L56 _ _ _ _ _ _ _ hf)
            · have hf := (if_neg c15).symm.trans hf
              exact g.tr (L56 _ _ _ _ _ _ _ hf)
  unfold fX7_side at hf
  have g : Fr [(0, 7), (0, 8), (0, 9), (0, 10), (0, 11), (0, 12), (0, 16)] [4, 5] τ τ := Fr.rf
  obtain ⟨t1, et1, hf⟩ := ks_nm hf
  have g := g.tr (show Fr _ _ _ t1 by rw [et1]; exact Fr.sI (by decide))
  exact g.tr (L21 FU _ _ _ _ _ _ _ hf)
set_option maxRecDepth 100000 in
theorem fr_X7_read  (τ : Tau) (p1 : Int32) (R : (Int32 × Tau)) (hf : fX7_read τ p1 = some R) : Fr [(0, 0), (0, 6), (0, 7), (0, 8), (0, 9), (0, 10), (0, 11), (0, 12), (0, 16), (0, 17)] [3, 4, 5] τ R.2 := by
  have L393 : ∀ (τ : Tau) (z_0 : Int32) (z_1 : Int32), fX7_read_393 p1 τ z_0 z_1 = some R → Fr [(0, 0), (0, 6), (0, 7), (0, 8), (0, 9), (0, 10), (0, 11), (0, 12), (0, 16), (0, 17)] [3, 4, 5] τ R.2 := by
    intro τ z_0 z_1 hf
    unfold fX7_read_393 at hf
    have g : Fr [(0, 0), (0, 6), (0, 7), (0, 8), (0, 9), (0, 10), (0, 11), (0, 12), (0, 16), (0, 17)] [3, 4, 5] τ τ := Fr.rf
    obtain ⟨b60, hf⟩ := ks_ok hf
    obtain ⟨t61, et61, hf⟩ := ks_nm hf
    have g := g.tr (show Fr _ _ _ t61 by rw [et61]; exact Fr.sA (by decide))
    obtain ⟨t62, et62, hf⟩ := ks_nm hf
    have g := g.tr (show Fr _ _ _ t62 by rw [et62]; exact Fr.sI (by decide))
    replace hf := Option.some.inj hf
    subst hf
    exact g
  have L391 : ∀ (τ : Tau) (z_0 : Int32), fX7_read_391 p1 τ z_0 = some R → Fr [(0, 0), (0, 6), (0, 7), (0, 8), (0, 9), (0, 10), (0, 11), (0, 12), (0, 16), (0, 17)] [3, 4, 5] τ R.2 := by
    intro τ z_0 hf
    unfold fX7_read_391 at hf
    have g : Fr [(0, 0), (0, 6), (0, 7), (0, 8), (0, 9), (0, 10), (0, 11), (0, 12), (0, 16), (0, 17)] [3, 4, 5] τ τ := Fr.rf
    exact g.tr (L393 _ _ _ hf)
  have L346 : ∀ (τ : Tau) (x_3 : Int32) (x_6 : Int32) (x_8 : Int32) (x_9 : Int32) (z_0 : Int32), fX7_read_346 p1 τ x_3 x_6 x_8 x_9 z_0 = some R → Fr [(0, 0), (0, 6), (0, 7), (0, 8), (0, 9), (0, 10), (0, 11), (0, 12), (0, 16), (0, 17)] [3, 4, 5] τ R.2 := by
    intro τ x_3 x_6 x_8 x_9 z_0 hf
    unfold fX7_read_346 at hf
    have g : Fr [(0, 0), (0, 6), (0, 7), (0, 8), (0, 9), (0, 10), (0, 11), (0, 12), (0, 16), (0, 17)] [3, 4, 5] τ τ := Fr.rf
    by_cases c57 : (3 : Int32) ≤ x_3
    · have hf := (if_pos c57).symm.trans hf
      exact g.tr (L391 _ _ hf)
    · have hf := (if_neg c57).symm.trans hf
      by_cases c58 : x_6 = (-9 : Int32)
      · have hf := (if_pos c58).symm.trans hf
        exact g.tr (L391 _ _ hf)
      · have hf := (if_neg c58).symm.trans hf
        by_cases c59 : x_8 = (-9 : Int32)
        · have hf := (if_pos c59).symm.trans hf
          exact g.tr (L391 _ _ hf)
        · have hf := (if_neg c59).symm.trans hf
          exact g.tr (L393 _ _ _ hf)
  have L303 : ∀ (τ : Tau) (x_2 : Int32) (x_3 : Int32) (x_6 : Int32) (x_8 : Int32) (x_9 : Int32) (z_0 : Int32) (z_1 : Int32), fX7_read_303 p1 τ x_2 x_3 x_6 x_8 x_9 z_0 z_1 = some R → Fr [(0, 0), (0, 6), (0, 7), (0, 8), (0, 9), (0, 10), (0, 11), (0, 12), (0, 16), (0, 17)] [3, 4, 5] τ R.2 := by
    intro τ x_2 x_3 x_6 x_8 x_9 z_0 z_1 hf
    unfold fX7_read_303 at hf
    have g : Fr [(0, 0), (0, 6), (0, 7), (0, 8), (0, 9), (0, 10), (0, 11), (0, 12), (0, 16), (0, 17)] [3, 4, 5] τ τ := Fr.rf
    obtain ⟨b50, hf⟩ := ks_ok hf
    obtain ⟨t51, et51, hf⟩ := ks_nm hf
    have g := g.tr (show Fr _ _ _ t51 by rw [et51]; exact Fr.sA (by decide))
    by_cases c52 : x_3 = 0
    · have hf := (if_pos c52).symm.trans hf
      by_cases c56 : x_2 = 0
      · have hf := (if_pos c56).symm.trans hf
        exact g.tr (L346 _ _ _ _ _ _ hf)
      · have hf := (if_neg c56).symm.trans hf
        exact g.tr (L346 _ _ _ _ _ _ hf)
    · have hf := (if_neg c52).symm.trans hf
      by_cases c53 : x_3 = (1 : Int32)
      · have hf := (if_pos c53).symm.trans hf
        by_cases c55 : x_2 = 0
        · have hf := (if_pos c55).symm.trans hf
          exact g.tr (L346 _ _ _ _ _ _ hf)
        · have hf := (if_neg c55).symm.trans hf
          exact g.tr (L346 _ _ _ _ _ _ hf)
      · have hf := (if_neg c53).symm.trans hf
        by_cases c54 : x_2 = 0
        · have hf := (if_pos c54).symm.trans hf
          exact g.tr (L346 _ _ _ _ _ _ hf)
        · have hf := (if_neg c54).symm.trans hf
          exact g.tr (L346 _ _ _ _ _ _ hf)
  have L219 : ∀ (τ : Tau) (x_2 : Int32) (x_3 : Int32) (x_4 : Int32) (x_5 : Int32) (x_6 : Int32) (x_7 : Int32) (x_8 : Int32), fX7_read_219 p1 τ x_2 x_3 x_4 x_5 x_6 x_7 x_8 = some R → Fr [(0, 0), (0, 6), (0, 7), (0, 8), (0, 9), (0, 10), (0, 11), (0, 12), (0, 16), (0, 17)] [3, 4, 5] τ R.2 := by
    intro τ x_2 x_3 x_4 x_5 x_6 x_7 x_8 hf
    unfold fX7_read_219 at hf
    have g : Fr [(0, 0), (0, 6), (0, 7), (0, 8), (0, 9), (0, 10), (0, 11), (0, 12), (0, 16), (0, 17)] [3, 4, 5] τ τ := Fr.rf
    obtain ⟨r37, er37, hf⟩ := ks_nm hf
    by_cases c38 : bI r37 = 0
    · have hf := (if_pos c38).symm.trans hf
      replace hf := Option.some.inj hf
      subst hf
      exact g
    · have hf := (if_neg c38).symm.trans hf
      obtain ⟨t39, et39, hf⟩ := ks_nm hf
      have g := g.tr (show Fr _ _ _ t39 by rw [et39]; exact Fr.sI (by decide))
      obtain ⟨x40, ex40, hf⟩ := ks_nm hf
      obtain ⟨b41, hf⟩ := ks_ok hf
      obtain ⟨t42, et42, hf⟩ := ks_nm hf
      have g := g.tr (show Fr _ _ _ t42 by rw [et42]; exact Fr.sA (by decide))
      obtain ⟨b43, hf⟩ := ks_ok hf
      obtain ⟨t44, et44, hf⟩ := ks_nm hf
      have g := g.tr (show Fr _ _ _ t44 by rw [et44]; exact Fr.sA (by decide))
      obtain ⟨b45, hf⟩ := ks_ok hf
      obtain ⟨t46, et46, hf⟩ := ks_nm hf
      have g := g.tr (show Fr _ _ _ t46 by rw [et46]; exact Fr.sA (by decide))
      obtain ⟨b47, hf⟩ := ks_ok hf
      obtain ⟨t48, et48, hf⟩ := ks_nm hf
      have g := g.tr (show Fr _ _ _ t48 by rw [et48]; exact Fr.sA (by decide))
      by_cases c49 : x_2 = 0
      · have hf := (if_pos c49).symm.trans hf
        exact g.tr (L303 _ _ _ _ _ _ _ _ hf)
      · have hf := (if_neg c49).symm.trans hf
        exact g.tr (L303 _ _ _ _ _ _ _ _ hf)
  have L200 : ∀ (τ : Tau) (x_2 : Int32) (x_3 : Int32) (x_4 : Int32) (x_5 : Int32) (x_6 : Int32) (z_0 : Int32), fX7_read_200 p1 τ x_2 x_3 x_4 x_5 x_6 z_0 = some R → Fr [(0, 0), (0, 6), (0, 7), (0, 8), (0, 9), (0, 10), (0, 11), (0, 12), (0, 16), (0, 17)] [3, 4, 5] τ R.2 := by
    intro τ x_2 x_3 x_4 x_5 x_6 z_0 hf
    unfold fX7_read_200 at hf
    have g : Fr [(0, 0), (0, 6), (0, 7), (0, 8), (0, 9), (0, 10), (0, 11), (0, 12), (0, 16), (0, 17)] [3, 4, 5] τ τ := Fr.rf
    obtain ⟨x34, ex34, hf⟩ := ks_nm hf
    by_cases c35 : tI τ 0 8 = 0
    · have hf := (if_pos c35).symm.trans hf
      exact g.tr (L219 _ _ _ _ _ _ _ _ hf)
    · have hf := (if_neg c35).symm.trans hf
      obtain ⟨r36, er36, hf⟩ := ks_nm hf
      have g := g.tr ((fr_X7_fails _ _ er36.symm).wk (by decide) (by decide))
      exact g.tr (L219 _ _ _ _ _ _ _ _ hf)
  have L185 : ∀ (τ : Tau) (x_2 : Int32) (x_3 : Int32) (x_4 : Int32) (x_5 : Int32) (x_6 : Int32), fX7_read_185 p1 τ x_2 x_3 x_4 x_5 x_6 = some R → Fr [(0, 0), (0, 6), (0, 7), (0, 8), (0, 9), (0, 10), (0, 11), (0, 12), (0, 16), (0, 17)] [3, 4, 5] τ R.2 := by
    intro τ x_2 x_3 x_4 x_5 x_6 hf
    unfold fX7_read_185 at hf
    have g : Fr [(0, 0), (0, 6), (0, 7), (0, 8), (0, 9), (0, 10), (0, 11), (0, 12), (0, 16), (0, 17)] [3, 4, 5] τ τ := Fr.rf
    obtain ⟨r31, er31, hf⟩ := ks_nm hf
    by_cases c32 : bI r31 = 0
    · have hf := (if_pos c32).symm.trans hf
      exact g.tr (L200 _ _ _ _ _ _ _ hf)
    · have hf := (if_neg c32).symm.trans hf
      obtain ⟨r33, er33, hf⟩ := ks_bind hf
      have g := g.tr ((fr_X7_side _ _ er33).wk (by decide) (by decide))
      exact g.tr (L200 _ _ _ _ _ _ _ hf)
  have L153 : ∀ (τ : Tau) (x_2 : Int32) (x_3 : Int32) (x_4 : Int32), fX7_read_153 p1 τ x_2 x_3 x_4 = some R → Fr [(0, 0), (0, 6), (0, 7), (0, 8), (0, 9), (0, 10), (0, 11), (0, 12), (0, 16), (0, 17)] [3, 4, 5] τ R.2 := by
    intro τ x_2 x_3 x_4 hf
    unfold fX7_read_153 at hf
    have g : Fr [(0, 0), (0, 6), (0, 7), (0, 8), (0, 9), (0, 10), (0, 11), (0, 12), (0, 16), (0, 17)] [3, 4, 5] τ τ := Fr.rf
    obtain ⟨r25, er25, hf⟩ := ks_bind hf
    have g := g.tr ((fr_X7_side _ _ er25).wk (by decide) (by decide))
    obtain ⟨x26, ex26, hf⟩ := ks_nm hf
    obtain ⟨r27, er27, hf⟩ := ks_nm hf
    by_cases c28 : bI r27 = 0
    · have hf := (if_pos c28).symm.trans hf
      obtain ⟨r29, er29, hf⟩ := ks_nm hf
      have g := g.tr ((fr_X7_fails _ _ er29.symm).wk (by decide) (by decide))
      exact g.tr (L185 _ _ _ _ _ _ hf)
    · have hf := (if_neg c28).symm.trans hf
      obtain ⟨r30, er30, hf⟩ := ks_bind hf
      have g := g.tr ((fr_X7_advances _ _ er30).wk (by decide) (by decide))
      exact g.tr (L185 _ _ _ _ _ _ hf)
  have L149 : ∀ (τ : Tau) (x_2 : Int32) (x_3 : Int32) (x_4 : Int32), fX7_read_149 p1 τ x_2 x_3 x_4 = some R → Fr [(0, 0), (0, 6), (0, 7), (0, 8), (0, 9), (0, 10), (0, 11), (0, 12), (0, 16), (0, 17)] [3, 4, 5] τ R.2 := by
    intro τ x_2 x_3 x_4 hf
    unfold fX7_read_149 at hf
    have g : Fr [(0, 0), (0, 6), (0, 7), (0, 8), (0, 9), (0, 10), (0, 11), (0, 12), (0, 16), (0, 17)] [3, 4, 5] τ τ := Fr.rf
    obtain ⟨r24, er24, hf⟩ := ks_nm hf
    have g := g.tr ((fr_X7_fails _ _ er24.symm).wk (by decide) (by decide))
    exact g.tr (L153 _ _ _ _ hf)
  have L119 : ∀ (τ : Tau) (x_2 : Int32) (x_3 : Int32) (x_4 : Int32), fX7_read_119 p1 τ x_2 x_3 x_4 = some R → Fr [(0, 0), (0, 6), (0, 7), (0, 8), (0, 9), (0, 10), (0, 11), (0, 12), (0, 16), (0, 17)] [3, 4, 5] τ R.2 := by
    intro τ x_2 x_3 x_4 hf
    unfold fX7_read_119 at hf
    have g : Fr [(0, 0), (0, 6), (0, 7), (0, 8), (0, 9), (0, 10), (0, 11), (0, 12), (0, 16), (0, 17)] [3, 4, 5] τ τ := Fr.rf
    by_cases c20 : tI τ 0 8 = (2 : Int32)
    · have hf := (if_pos c20).symm.trans hf
      by_cases c21 : (7 : Int32) ≤ tI τ 0 10
      · have hf := (if_pos c21).symm.trans hf
        exact g.tr (L149 _ _ _ _ hf)
      · have hf := (if_neg c21).symm.trans hf
        obtain ⟨x22, ex22, hf⟩ := ks_nm hf
        obtain ⟨r23, er23, hf⟩ := ks_bind hf
        have g := g.tr ((fr_X7_advances _ _ er23).wk (by decide) (by decide))
        exact g.tr (L153 _ _ _ _ hf)
    · have hf := (if_neg c20).symm.trans hf
      exact g.tr (L149 _ _ _ _ hf)
  have L102 : ∀ (τ : Tau) (x_2 : Int32) (x_3 : Int32) (x_4 : Int32), fX7_read_102 p1 τ x_2 x_3 x_4 = some R → Fr [(0, 0), (0, 6), (0, 7), (0, 8), (0, 9), (0, 10), (0, 11), (0, 12), (0, 16), (0, 17)] [3, 4, 5] τ R.2 := by
    intro τ x_2 x_3 x_4 hf
    unfold fX7_read_102 at hf
    have g : Fr [(0, 0), (0, 6), (0, 7), (0, 8), (0, 9), (0, 10), (0, 11), (0, 12), (0, 16), (0, 17)] [3, 4, 5] τ τ := Fr.rf
    obtain ⟨r16, er16, hf⟩ := ks_nm hf
    by_cases c17 : bI r16 = 0
    · have hf := (if_pos c17).symm.trans hf
      exact g.tr (L153 _ _ _ _ hf)
    · have hf := (if_neg c17).symm.trans hf
      by_cases c18 : x_3 = (4 : Int32)
      · have hf := (if_pos c18).symm.trans hf
        exact g.tr (L119 _ _ _ _ hf)
      · have hf := (if_neg c18).symm.trans hf
        by_cases c19 : x_3 = (5 : Int32)
        · have hf := (if_pos c19).symm.trans hf
          exact g.tr (L119 _ _ _ _ hf)
        · have hf := (if_neg c19).symm.trans hf
          exact g.tr (L153 _ _ _ _ hf)
  have L81 : ∀ (τ : Tau) (x_2 : Int32) (z_0 : Int32), fX7_read_81 p1 τ x_2 z_0 = some R → Fr [(0, 0), (0, 6), (0, 7), (0, 8), (0, 9), (0, 10), (0, 11), (0, 12), (0, 16), (0, 17)] [3, 4, 5] τ R.2 := by
    intro τ x_2 z_0 hf
    unfold fX7_read_81 at hf
    have g : Fr [(0, 0), (0, 6), (0, 7), (0, 8), (0, 9), (0, 10), (0, 11), (0, 12), (0, 16), (0, 17)] [3, 4, 5] τ τ := Fr.rf
    by_cases c13 : z_0 = (8 : Int32)
    · have hf := (if_pos c13).symm.trans hf
      obtain ⟨r15, er15, hf⟩ := ks_nm hf
      have g := g.tr ((fr_X7_fails _ _ er15.symm).wk (by decide) (by decide))
      exact g.tr (L102 _ _ _ _ hf)
    · have hf := (if_neg c13).symm.trans hf
      obtain ⟨r14, er14, hf⟩ := ks_bind hf
      have g := g.tr ((fr_X7_advances _ _ er14).wk (by decide) (by decide))
      exact g.tr (L102 _ _ _ _ hf)
  have L64 : ∀ (τ : Tau) (x_2 : Int32), fX7_read_64 p1 τ x_2 = some R → Fr [(0, 0), (0, 6), (0, 7), (0, 8), (0, 9), (0, 10), (0, 11), (0, 12), (0, 16), (0, 17)] [3, 4, 5] τ R.2 := by
    intro τ x_2 hf
    unfold fX7_read_64 at hf
    have g : Fr [(0, 0), (0, 6), (0, 7), (0, 8), (0, 9), (0, 10), (0, 11), (0, 12), (0, 16), (0, 17)] [3, 4, 5] τ τ := Fr.rf
    by_cases c12 : tI τ 0 8 = (1 : Int32)
    · have hf := (if_pos c12).symm.trans hf
      exact g.tr (L81 _ _ _ hf)
    · have hf := (if_neg c12).symm.trans hf
      exact g.tr (L81 _ _ _ hf)
  have L55 : ∀ (τ : Tau) (z_0 : Int32), fX7_read_55 p1 τ z_0 = some R → Fr [(0, 0), (0, 6), (0, 7), (0, 8), (0, 9), (0, 10), (0, 11), (0, 12), (0, 16), (0, 17)] [3, 4, 5] τ R.2 := by
    intro τ z_0 hf
    unfold fX7_read_55 at hf
    have g : Fr [(0, 0), (0, 6), (0, 7), (0, 8), (0, 9), (0, 10), (0, 11), (0, 12), (0, 16), (0, 17)] [3, 4, 5] τ τ := Fr.rf
    by_cases c10 : z_0 = 0
    · have hf := (if_pos c10).symm.trans hf
      exact g.tr (L64 _ _ hf)
    · have hf := (if_neg c10).symm.trans hf
      obtain ⟨r11, er11, hf⟩ := ks_bind hf
      have g := g.tr ((fr_X7_advances _ _ er11).wk (by decide) (by decide))
      exact g.tr (L64 _ _ hf)
  have L54 : ∀ (τ : Tau), fX7_read_54 p1 τ = some R → Fr [(0, 0), (0, 6), (0, 7), (0, 8), (0, 9), (0, 10), (0, 11), (0, 12), (0, 16), (0, 17)] [3, 4, 5] τ R.2 := by
    intro τ hf
    unfold fX7_read_54 at hf
    have g : Fr [(0, 0), (0, 6), (0, 7), (0, 8), (0, 9), (0, 10), (0, 11), (0, 12), (0, 16), (0, 17)] [3, 4, 5] τ τ := Fr.rf
    exact g.tr (L55 _ _ hf)
  unfold fX7_read at hf
  have g : Fr [(0, 0), (0, 6), (0, 7), (0, 8), (0, 9), (0, 10), (0, 11), (0, 12), (0, 16), (0, 17)] [3, 4, 5] τ τ := Fr.rf
  obtain ⟨t1, et1, hf⟩ := ks_nm hf
  have g := g.tr (show Fr _ _ _ t1 by rw [et1]; exact Fr.sI (by decide))
  obtain ⟨r2, er2, hf⟩ := ks_nm hf
  by_cases c3 : bI r2 = 0
  · have hf := (if_pos c3).symm.trans hf
    replace hf := Option.some.inj hf
    subst hf
    exact g
  · have hf := (if_neg c3).symm.trans hf
    obtain ⟨t4, et4, hf⟩ := ks_nm hf
    have g := g.tr (show Fr _ _ _ t4 by rw [et4]; exact Fr.sI (by decide))
    obtain ⟨t5, et5, hf⟩ := ks_nm hf
    have g := g.tr (show Fr _ _ _ t5 by rw [et5]; exact Fr.sI (by decide))
    obtain ⟨t6, et6, hf⟩ := ks_nm hf
    have g := g.tr (show Fr _ _ _ t6 by rw [et6]; exact Fr.sI (by decide))
    obtain ⟨r7, er7, hf⟩ := ks_bind hf
    have g := g.tr ((fr_X7_advances _ _ er7).wk (by decide) (by decide))
    by_cases c8 : tI r7 0 8 = (1 : Int32)
    · have hf := (if_pos c8).symm.trans hf
      by_cases c9 : tI r7 0 10 = (8 : Int32)
      · have hf := (if_pos c9).symm.trans hf
        exact g.tr (L55 _ _ hf)
      · have hf := (if_neg c9).symm.trans hf
        exact g.tr (L54 _ hf)
    · have hf := (if_neg c8).symm.trans hf
      exact g.tr (L54 _ hf)
set_option maxRecDepth 100000 in
theorem fr_X7_about  (τ : Tau) (p1 : Int32) (p2 : Int32) (R : (Int32 × Tau)) (hf : fX7_about τ p1 p2 = some R) : Fr [(0, 0)] [] τ R.2 := by
  unfold fX7_about at hf
  have g : Fr [(0, 0)] [] τ τ := Fr.rf
  obtain ⟨t1, et1, hf⟩ := ks_nm hf
  have g := g.tr (show Fr _ _ _ t1 by rw [et1]; exact Fr.sI (by decide))
  obtain ⟨r2, er2, hf⟩ := ks_nm hf
  by_cases c3 : bI r2 = 0
  · have hf := (if_pos c3).symm.trans hf
    replace hf := Option.some.inj hf
    subst hf
    exact g
  · have hf := (if_neg c3).symm.trans hf
    obtain ⟨r4, er4, hf⟩ := ks_nm hf
    by_cases c5 : bI r4 = 0
    · have hf := (if_pos c5).symm.trans hf
      replace hf := Option.some.inj hf
      subst hf
      exact g
    · have hf := (if_neg c5).symm.trans hf
      obtain ⟨b6, hf⟩ := ks_ok hf
      replace hf := Option.some.inj hf
      subst hf
      exact g
set_option maxRecDepth 100000 in
theorem fr_X7_takes  (τ : Tau) (R : Tau) (hf : fX7_takes τ = some R) : Fr [(0, 18)] [7, 8, 9, 10] τ R := by
  have L119 : ∀ (n119 : Nat) (τ : Tau) (x_1 : Int32) (x_2 : Int32), fX7_takes_119 n119 τ x_1 x_2 = some R → Fr [(0, 18)] [7, 8, 9, 10] τ R := by
    intro n119
    induction n119 with
    | zero => intro τ x_1 x_2 hf; exact absurd hf (by rw [fX7_takes_119]; simp)
    | succ n119 ih119 =>
      have L126 : ∀ (n126 : Nat) (τ : Tau) (x_1 : Int32) (x_2 : Int32) (x_3 : Int32), fX7_takes_126 (fX7_takes_119 n119) n126 τ x_1 x_2 x_3 = some R → Fr [(0, 18)] [7, 8, 9, 10] τ R := by
        intro n126
        induction n126 with
        | zero => intro τ x_1 x_2 x_3 hf; exact absurd hf (by rw [fX7_takes_126]; simp)
        | succ n126 ih126 =>
          have L137 : ∀ (n137 : Nat) (τ : Tau) (x_1 : Int32) (x_2 : Int32) (x_3 : Int32) (x_4 : Int32), fX7_takes_137 (fX7_takes_119 n119) (fX7_takes_126 (fX7_takes_119 n119) n126) n137 τ x_1 x_2 x_3 x_4 = some R → Fr [(0, 18)] [7, 8, 9, 10] τ R := by
            intro n137
            induction n137 with
            | zero => intro τ x_1 x_2 x_3 x_4 hf; exact absurd hf (by rw [fX7_takes_137]; simp)
            | succ n137 ih137 =>
              have L187 : ∀ (τ : Tau) (x_1 : Int32) (x_2 : Int32) (x_3 : Int32) (x_4 : Int32) (z_0 : Int64) (z_1 : Int64) (z_2 : Int32), fX7_takes_187 (fX7_takes_119 n119) (fX7_takes_126 (fX7_takes_119 n119) n126) (fX7_takes_137 (fX7_takes_119 n119) (fX7_takes_126 (fX7_takes_119 n119) n126) n137) τ x_1 x_2 x_3 x_4 z_0 z_1 z_2 = some R → Fr [(0, 18)] [7, 8, 9, 10] τ R := by
                intro τ x_1 x_2 x_3 x_4 z_0 z_1 z_2 hf
                unfold fX7_takes_187 at hf
                have g : Fr [(0, 18)] [7, 8, 9, 10] τ τ := Fr.rf
                obtain ⟨b29, hf⟩ := ks_ok hf
                obtain ⟨t30, et30, hf⟩ := ks_nm hf
                have g := g.tr (show Fr _ _ _ t30 by rw [et30]; exact Fr.sB (by decide))
                obtain ⟨x31, ex31, hf⟩ := ks_nm hf
                exact g.tr (ih137 _ _ _ _ _ hf)
              intro τ x_1 x_2 x_3 x_4 hf
              rw [fX7_takes_137] at hf
              have g : Fr [(0, 18)] [7, 8, 9, 10] τ τ := Fr.rf
              by_cases c24 : tI τ 0 1 ≤ x_4
              · have hf := (if_pos c24).symm.trans hf
                obtain ⟨x25, ex25, hf⟩ := ks_nm hf
                exact g.tr (ih126 _ _ _ _ hf)
              · have hf := (if_neg c24).symm.trans hf
                obtain ⟨b26, hf⟩ := ks_ok hf
                obtain ⟨r27, er27, hf⟩ := ks_bind hf
                by_cases c28 : bI r27 = 0
                · have hf := (if_pos c28).symm.trans hf
                  exact g.tr (L187 _ _ _ _ _ _ _ _ hf)
                · have hf := (if_neg c28).symm.trans hf
                  exact g.tr (L187 _ _ _ _ _ _ _ _ hf)
          intro τ x_1 x_2 x_3 hf
          rw [fX7_takes_126] at hf
          have g : Fr [(0, 18)] [7, 8, 9, 10] τ τ := Fr.rf
          by_cases c22 : tI τ 0 1 ≤ x_3
          · have hf := (if_pos c22).symm.trans hf
            obtain ⟨x23, ex23, hf⟩ := ks_nm hf
            exact g.tr (ih119 _ _ _ hf)
          · have hf := (if_neg c22).symm.trans hf
            exact g.tr (L137 FU _ _ _ _ _ hf)
      intro τ x_1 x_2 hf
      rw [fX7_takes_119] at hf
      have g : Fr [(0, 18)] [7, 8, 9, 10] τ τ := Fr.rf
      by_cases c21 : (4 : Int32) ≤ x_2
      · have hf := (if_pos c21).symm.trans hf
        replace hf := Option.some.inj hf
        subst hf
        exact g
      · have hf := (if_neg c21).symm.trans hf
        exact g.tr (L126 FU _ _ _ _ hf)
  have L97 : ∀ (τ : Tau) (x_1 : Int32), fX7_takes_97 τ x_1 = some R → Fr [(0, 18)] [7, 8, 9, 10] τ R := by
    intro τ x_1 hf
    unfold fX7_takes_97 at hf
    have g : Fr [(0, 18)] [7, 8, 9, 10] τ τ := Fr.rf
    obtain ⟨b17, hf⟩ := ks_ok hf
    obtain ⟨b18, hf⟩ := ks_ok hf
    obtain ⟨t19, et19, hf⟩ := ks_nm hf
    have g := g.tr (show Fr _ _ _ t19 by rw [et19]; exact Fr.sA (by decide))
    obtain ⟨t20, et20, hf⟩ := ks_nm hf
    have g := g.tr (show Fr _ _ _ t20 by rw [et20]; exact Fr.sI (by decide))
    exact g.tr (L119 FU _ _ _ hf)
  have L59 : ∀ (n59 : Nat) (τ : Tau) (x_1 : Int32) (x_2 : Int32), fX7_takes_59 n59 τ x_1 x_2 = some R → Fr [(0, 18)] [7, 8, 9, 10] τ R := by
    intro n59
    induction n59 with
    | zero => intro τ x_1 x_2 hf; exact absurd hf (by rw [fX7_takes_59]; simp)
    | succ n59 ih59 =>
      intro τ x_1 x_2 hf
      rw [fX7_takes_59] at hf
      have g : Fr [(0, 18)] [7, 8, 9, 10] τ τ := Fr.rf
      by_cases c10 : (16 : Int32) ≤ x_2
      · have hf := (if_pos c10).symm.trans hf
        obtain ⟨b11, hf⟩ := ks_ok hf
        obtain ⟨t12, et12, hf⟩ := ks_nm hf
        have g := g.tr (show Fr _ _ _ t12 by rw [et12]; exact Fr.sB (by decide))
        exact g.tr (L97 _ _ hf)
      · have hf := (if_neg c10).symm.trans hf
        obtain ⟨b13, hf⟩ := ks_ok hf
        obtain ⟨b14, hf⟩ := ks_ok hf
        obtain ⟨t15, et15, hf⟩ := ks_nm hf
        have g := g.tr (show Fr _ _ _ t15 by rw [et15]; exact Fr.sA (by decide))
        obtain ⟨x16, ex16, hf⟩ := ks_nm hf
        exact g.tr (ih59 _ _ _ hf)
  have L4 : ∀ (n4 : Nat) (τ : Tau) (x_1 : Int32) (x_2 : Int32), fX7_takes_4 n4 τ x_1 x_2 = some R → Fr [(0, 18)] [7, 8, 9, 10] τ R := by
    intro n4
    induction n4 with
    | zero => intro τ x_1 x_2 hf; exact absurd hf (by rw [fX7_takes_4]; simp)
    | succ n4 ih4 =>
      have L30 : ∀ (τ : Tau) (x_2 : Int32) (z_0 : Int32) (z_1 : Int32), fX7_takes_30 (fX7_takes_4 n4) τ x_2 z_0 z_1 = some R → Fr [(0, 18)] [7, 8, 9, 10] τ R := by
        intro τ x_2 z_0 z_1 hf
        unfold fX7_takes_30 at hf
        have g : Fr [(0, 18)] [7, 8, 9, 10] τ τ := Fr.rf
        obtain ⟨x8, ex8, hf⟩ := ks_nm hf
        obtain ⟨x9, ex9, hf⟩ := ks_nm hf
        exact g.tr (ih4 _ _ _ hf)
      intro τ x_1 x_2 hf
      rw [fX7_takes_4] at hf
      have g : Fr [(0, 18)] [7, 8, 9, 10] τ τ := Fr.rf
      by_cases c1 : (10 : Int32) ≤ x_2
      · have hf := (if_pos c1).symm.trans hf
        obtain ⟨b2, hf⟩ := ks_ok hf
        by_cases c3 : tA τ 7 x_1.toNatClampNeg = 0
        · have hf := (if_pos c3).symm.trans hf
          obtain ⟨b4, hf⟩ := ks_ok hf
          obtain ⟨t5, et5, hf⟩ := ks_nm hf
          have g := g.tr (show Fr _ _ _ t5 by rw [et5]; exact Fr.sA (by decide))
          exact g.tr (L59 FU _ _ _ hf)
        · have hf := (if_neg c3).symm.trans hf
          exact g.tr (L97 _ _ hf)
      · have hf := (if_neg c1).symm.trans hf
        obtain ⟨r6, er6, hf⟩ := ks_bind hf
        by_cases c7 : bI r6 = 0
        · have hf := (if_pos c7).symm.trans hf
          exact g.tr (L30 _ _ _ _ hf)
        · have hf := (if_neg c7).symm.trans hf
          exact g.tr (L30 _ _ _ _ hf)
  unfold fX7_takes at hf
  have g : Fr [(0, 18)] [7, 8, 9, 10] τ τ := Fr.rf
  exact g.tr (L4 FU _ _ _ hf)
set_option maxRecDepth 100000 in
theorem fr_X7_loads  (τ : Tau) (R : Tau) (hf : fX7_loads τ = some R) : Fr [(0, 17), (0, 18)] [6, 7, 8, 9, 10] τ R := by
  have L49 : ∀ (n49 : Nat) (τ : Tau) (x_1 : Int32) (x_2 : Int32), fX7_loads_49 n49 τ x_1 x_2 = some R → Fr [(0, 17), (0, 18)] [6, 7, 8, 9, 10] τ R := by
    intro n49
    induction n49 with
    | zero => intro τ x_1 x_2 hf; exact absurd hf (by rw [fX7_loads_49]; simp)
    | succ n49 ih49 =>
      have L88 : ∀ (n88 : Nat) (τ : Tau) (x_1 : Int32) (x_2 : Int32) (x_3 : Int32), fX7_loads_88 (fX7_loads_49 n49) n88 τ x_1 x_2 x_3 = some R → Fr [(0, 17), (0, 18)] [6, 7, 8, 9, 10] τ R := by
        intro n88
        induction n88 with
        | zero => intro τ x_1 x_2 x_3 hf; exact absurd hf (by rw [fX7_loads_88]; simp)
        | succ n88 ih88 =>
          have L176 : ∀ (τ : Tau) (x_1 : Int32) (x_2 : Int32) (x_3 : Int32), fX7_loads_176 (fX7_loads_49 n49) (fX7_loads_88 (fX7_loads_49 n49) n88) τ x_1 x_2 x_3 = some R → Fr [(0, 17), (0, 18)] [6, 7, 8, 9, 10] τ R := by
            intro τ x_1 x_2 x_3 hf
            unfold fX7_loads_176 at hf
            have g : Fr [(0, 17), (0, 18)] [6, 7, 8, 9, 10] τ τ := Fr.rf
            exact g.tr (ih88 _ _ _ _ hf)
          have L147 : ∀ (τ : Tau) (x_1 : Int32) (x_2 : Int32) (x_4 : Int32) (x_5 : Int32) (z_0 : Int32), fX7_loads_147 (fX7_loads_49 n49) (fX7_loads_88 (fX7_loads_49 n49) n88) τ x_1 x_2 x_4 x_5 z_0 = some R → Fr [(0, 17), (0, 18)] [6, 7, 8, 9, 10] τ R := by
            intro τ x_1 x_2 x_4 x_5 z_0 hf
            unfold fX7_loads_147 at hf
            have g : Fr [(0, 17), (0, 18)] [6, 7, 8, 9, 10] τ τ := Fr.rf
            by_cases c29 : z_0 = 0
            · have hf := (if_pos c29).symm.trans hf
              exact g.tr (L176 _ _ _ _ hf)
            · have hf := (if_neg c29).symm.trans hf
              obtain ⟨b30, hf⟩ := ks_ok hf
              obtain ⟨b31, hf⟩ := ks_ok hf
              obtain ⟨t32, et32, hf⟩ := ks_nm hf
              have g := g.tr (show Fr _ _ _ t32 by rw [et32]; exact Fr.sA (by decide))
              obtain ⟨b33, hf⟩ := ks_ok hf
              obtain ⟨t34, et34, hf⟩ := ks_nm hf
              have g := g.tr (show Fr _ _ _ t34 by rw [et34]; exact Fr.sA (by decide))
              exact g.tr (L176 _ _ _ _ hf)
          have L137 : ∀ (τ : Tau) (x_1 : Int32) (x_2 : Int32) (x_4 : Int32) (x_5 : Int32), fX7_loads_137 (fX7_loads_49 n49) (fX7_loads_88 (fX7_loads_49 n49) n88) τ x_1 x_2 x_4 x_5 = some R → Fr [(0, 17), (0, 18)] [6, 7, 8, 9, 10] τ R := by
            intro τ x_1 x_2 x_4 x_5 hf
            unfold fX7_loads_137 at hf
            have g : Fr [(0, 17), (0, 18)] [6, 7, 8, 9, 10] τ τ := Fr.rf
            by_cases c28 : x_5 < 0
            · have hf := (if_pos c28).symm.trans hf
              exact g.tr (L147 _ _ _ _ _ _ hf)
            · have hf := (if_neg c28).symm.trans hf
              exact g.tr (L147 _ _ _ _ _ _ hf)
          have L116 : ∀ (n116 : Nat) (τ : Tau) (x_1 : Int32) (x_2 : Int32) (x_4 : Int32) (x_5 : Int32), fX7_loads_116 (fX7_loads_49 n49) (fX7_loads_88 (fX7_loads_49 n49) n88) n116 τ x_1 x_2 x_4 x_5 = some R → Fr [(0, 17), (0, 18)] [6, 7, 8, 9, 10] τ R := by
            intro n116
            induction n116 with
            | zero => intro τ x_1 x_2 x_4 x_5 hf; exact absurd hf (by rw [fX7_loads_116]; simp)
            | succ n116 ih116 =>
              intro τ x_1 x_2 x_4 x_5 hf
              rw [fX7_loads_116] at hf
              have g : Fr [(0, 17), (0, 18)] [6, 7, 8, 9, 10] τ τ := Fr.rf
              by_cases c24 : x_5 < 0
              · have hf := (if_pos c24).symm.trans hf
                exact g.tr (L137 _ _ _ _ _ hf)
              · have hf := (if_neg c24).symm.trans hf
                obtain ⟨b25, hf⟩ := ks_ok hf
                by_cases c26 : tA τ 6 x_5.toNatClampNeg = 0
                · have hf := (if_pos c26).symm.trans hf
                  obtain ⟨x27, ex27, hf⟩ := ks_nm hf
                  exact g.tr (ih116 _ _ _ _ _ hf)
                · have hf := (if_neg c26).symm.trans hf
                  exact g.tr (L137 _ _ _ _ _ hf)
          intro τ x_1 x_2 x_3 hf
          rw [fX7_loads_88] at hf
          have g : Fr [(0, 17), (0, 18)] [6, 7, 8, 9, 10] τ τ := Fr.rf
          by_cases c16 : x_3 = 0
          · have hf := (if_pos c16).symm.trans hf
            obtain ⟨x17, ex17, hf⟩ := ks_nm hf
            exact g.tr (ih49 _ _ _ hf)
          · have hf := (if_neg c16).symm.trans hf
            obtain ⟨r18, er18, hf⟩ := ks_bind hf
            have g := g.tr ((fr_X7_takes _ _ er18).wk (by decide) (by decide))
            obtain ⟨b19, hf⟩ := ks_ok hf
            obtain ⟨x20, ex20, hf⟩ := ks_nm hf
            obtain ⟨b21, hf⟩ := ks_ok hf
            obtain ⟨t22, et22, hf⟩ := ks_nm hf
            have g := g.tr (show Fr _ _ _ t22 by rw [et22]; exact Fr.sA (by decide))
            obtain ⟨x23, ex23, hf⟩ := ks_nm hf
            exact g.tr (L116 FU _ _ _ _ _ hf)
      have L59 : ∀ (n59 : Nat) (τ : Tau) (x_1 : Int32) (x_2 : Int32) (x_3 : Int32), fX7_loads_59 (fX7_loads_49 n49) n59 τ x_1 x_2 x_3 = some R → Fr [(0, 17), (0, 18)] [6, 7, 8, 9, 10] τ R := by
        intro n59
        induction n59 with
        | zero => intro τ x_1 x_2 x_3 hf; exact absurd hf (by rw [fX7_loads_59]; simp)
        | succ n59 ih59 =>
          have L79 : ∀ (τ : Tau) (x_1 : Int32) (x_2 : Int32) (x_3 : Int32) (z_0 : Int32) (z_1 : Int32), fX7_loads_79 (fX7_loads_49 n49) (fX7_loads_59 (fX7_loads_49 n49) n59) τ x_1 x_2 x_3 z_0 z_1 = some R → Fr [(0, 17), (0, 18)] [6, 7, 8, 9, 10] τ R := by
            intro τ x_1 x_2 x_3 z_0 z_1 hf
            unfold fX7_loads_79 at hf
            have g : Fr [(0, 17), (0, 18)] [6, 7, 8, 9, 10] τ τ := Fr.rf
            obtain ⟨b13, hf⟩ := ks_ok hf
            obtain ⟨t14, et14, hf⟩ := ks_nm hf
            have g := g.tr (show Fr _ _ _ t14 by rw [et14]; exact Fr.sA (by decide))
            obtain ⟨x15, ex15, hf⟩ := ks_nm hf
            exact g.tr (ih59 _ _ _ _ hf)
          intro τ x_1 x_2 x_3 hf
          rw [fX7_loads_59] at hf
          have g : Fr [(0, 17), (0, 18)] [6, 7, 8, 9, 10] τ τ := Fr.rf
          by_cases c11 : (16 : Int32) ≤ x_3
          · have hf := (if_pos c11).symm.trans hf
            exact g.tr (L88 FU _ _ _ _ hf)
          · have hf := (if_neg c11).symm.trans hf
            by_cases c12 : x_3 = 0
            · have hf := (if_pos c12).symm.trans hf
              exact g.tr (L79 _ _ _ _ _ _ hf)
            · have hf := (if_neg c12).symm.trans hf
              exact g.tr (L79 _ _ _ _ _ _ hf)
      intro τ x_1 x_2 hf
      rw [fX7_loads_49] at hf
      have g : Fr [(0, 17), (0, 18)] [6, 7, 8, 9, 10] τ τ := Fr.rf
      by_cases c10 : tI τ 0 2 < x_2
      · have hf := (if_pos c10).symm.trans hf
        replace hf := Option.some.inj hf
        subst hf
        exact g
      · have hf := (if_neg c10).symm.trans hf
        exact g.tr (L59 FU _ _ _ _ hf)
  have L20 : ∀ (n20 : Nat) (τ : Tau) (x_1 : Int32), fX7_loads_20 n20 τ x_1 = some R → Fr [(0, 17), (0, 18)] [6, 7, 8, 9, 10] τ R := by
    intro n20
    induction n20 with
    | zero => intro τ x_1 hf; exact absurd hf (by rw [fX7_loads_20]; simp)
    | succ n20 ih20 =>
      intro τ x_1 hf
      rw [fX7_loads_20] at hf
      have g : Fr [(0, 17), (0, 18)] [6, 7, 8, 9, 10] τ τ := Fr.rf
      by_cases c4 : (1024 : Int32) ≤ x_1
      · have hf := (if_pos c4).symm.trans hf
        obtain ⟨r5, er5, hf⟩ := ks_nm hf
        obtain ⟨x6, ex6, hf⟩ := ks_nm hf
        exact g.tr (L49 FU _ _ _ hf)
      · have hf := (if_neg c4).symm.trans hf
        obtain ⟨b7, hf⟩ := ks_ok hf
        obtain ⟨t8, et8, hf⟩ := ks_nm hf
        have g := g.tr (show Fr _ _ _ t8 by rw [et8]; exact Fr.sA (by decide))
        obtain ⟨x9, ex9, hf⟩ := ks_nm hf
        exact g.tr (ih20 _ _ hf)
  unfold fX7_loads at hf
  have g : Fr [(0, 17), (0, 18)] [6, 7, 8, 9, 10] τ τ := Fr.rf
  by_cases c1 : tI τ 0 17 = 0
  · have hf := (if_pos c1).symm.trans hf
    obtain ⟨t2, et2, hf⟩ := ks_nm hf
    have g := g.tr (show Fr _ _ _ t2 by rw [et2]; exact Fr.sI (by decide))
    obtain ⟨t3, et3, hf⟩ := ks_nm hf
    have g := g.tr (show Fr _ _ _ t3 by rw [et3]; exact Fr.sI (by decide))
    exact g.tr (L20 FU _ _ hf)
  · have hf := (if_neg c1).symm.trans hf
    replace hf := Option.some.inj hf
    subst hf
    exact g
set_option maxRecDepth 100000 in
theorem fr_X7_worlds  (τ : Tau) (R : (Int32 × Tau)) (hf : fX7_worlds τ = some R) : Fr [(0, 0), (0, 17), (0, 18)] [6, 7, 8, 9, 10] τ R.2 := by
  unfold fX7_worlds at hf
  have g : Fr [(0, 0), (0, 17), (0, 18)] [6, 7, 8, 9, 10] τ τ := Fr.rf
  obtain ⟨t1, et1, hf⟩ := ks_nm hf
  have g := g.tr (show Fr _ _ _ t1 by rw [et1]; exact Fr.sI (by decide))
  obtain ⟨r2, er2, hf⟩ := ks_bind hf
  have g := g.tr ((fr_X7_loads _ _ er2).wk (by decide) (by decide))
  replace hf := Option.some.inj hf
  subst hf
  exact g
set_option maxRecDepth 100000 in
theorem fr_X7_can  (τ : Tau) (p1 : Int32) (R : (Int32 × Tau)) (hf : fX7_can τ p1 = some R) : Fr [(0, 0), (0, 17), (0, 18)] [6, 7, 8, 9, 10] τ R.2 := by
  unfold fX7_can at hf
  have g : Fr [(0, 0), (0, 17), (0, 18)] [6, 7, 8, 9, 10] τ τ := Fr.rf
  obtain ⟨t1, et1, hf⟩ := ks_nm hf
  have g := g.tr (show Fr _ _ _ t1 by rw [et1]; exact Fr.sI (by decide))
  obtain ⟨r2, er2, hf⟩ := ks_nm hf
  by_cases c3 : bI r2 = 0
  · have hf := (if_pos c3).symm.trans hf
    replace hf := Option.some.inj hf
    subst hf
    exact g
  · have hf := (if_neg c3).symm.trans hf
    obtain ⟨r4, er4, hf⟩ := ks_bind hf
    have g := g.tr ((fr_X7_loads _ _ er4).wk (by decide) (by decide))
    obtain ⟨r5, er5, hf⟩ := ks_bind hf
    replace hf := Option.some.inj hf
    subst hf
    exact g
set_option maxRecDepth 100000 in
theorem fr_X7_least  (τ : Tau) (p1 : Int32) (p2 : Int32) (R : (Int32 × Tau)) (hf : fX7_least τ p1 p2 = some R) : Fr [(0, 0), (0, 17), (0, 18)] [6, 7, 8, 9, 10] τ R.2 := by
  unfold fX7_least at hf
  have g : Fr [(0, 0), (0, 17), (0, 18)] [6, 7, 8, 9, 10] τ τ := Fr.rf
  obtain ⟨t1, et1, hf⟩ := ks_nm hf
  have g := g.tr (show Fr _ _ _ t1 by rw [et1]; exact Fr.sI (by decide))
  obtain ⟨r2, er2, hf⟩ := ks_nm hf
  by_cases c3 : bI r2 = 0
  · have hf := (if_pos c3).symm.trans hf
    replace hf := Option.some.inj hf
    subst hf
    exact g
  · have hf := (if_neg c3).symm.trans hf
    obtain ⟨r4, er4, hf⟩ := ks_nm hf
    obtain ⟨r5, er5, hf⟩ := ks_nm hf
    by_cases c6 : bI r5 = 0
    · have hf := (if_pos c6).symm.trans hf
      replace hf := Option.some.inj hf
      subst hf
      exact g
    · have hf := (if_neg c6).symm.trans hf
      obtain ⟨r7, er7, hf⟩ := ks_bind hf
      have g := g.tr ((fr_X7_loads _ _ er7).wk (by decide) (by decide))
      obtain ⟨r8, er8, hf⟩ := ks_bind hf
      obtain ⟨r9, er9, hf⟩ := ks_bind hf
      replace hf := Option.some.inj hf
      subst hf
      exact g
set_option maxRecDepth 100000 in
theorem fr_X7_follows  (τ : Tau) (p1 : Int32) (p2 : Int32) (R : (Int32 × Tau)) (hf : fX7_follows τ p1 p2 = some R) : Fr [(0, 0), (0, 17), (0, 18)] [6, 7, 8, 9, 10] τ R.2 := by
  unfold fX7_follows at hf
  have g : Fr [(0, 0), (0, 17), (0, 18)] [6, 7, 8, 9, 10] τ τ := Fr.rf
  obtain ⟨t1, et1, hf⟩ := ks_nm hf
  have g := g.tr (show Fr _ _ _ t1 by rw [et1]; exact Fr.sI (by decide))
  obtain ⟨r2, er2, hf⟩ := ks_nm hf
  by_cases c3 : bI r2 = 0
  · have hf := (if_pos c3).symm.trans hf
    replace hf := Option.some.inj hf
    subst hf
    exact g
  · have hf := (if_neg c3).symm.trans hf
    obtain ⟨r4, er4, hf⟩ := ks_nm hf
    by_cases c5 : bI r4 = 0
    · have hf := (if_pos c5).symm.trans hf
      replace hf := Option.some.inj hf
      subst hf
      exact g
    · have hf := (if_neg c5).symm.trans hf
      obtain ⟨r6, er6, hf⟩ := ks_bind hf
      have g := g.tr ((fr_X7_loads _ _ er6).wk (by decide) (by decide))
      obtain ⟨r7, er7, hf⟩ := ks_bind hf
      by_cases c8 : r7 = (-9 : Int32)
      · have hf := (if_pos c8).symm.trans hf
        replace hf := Option.some.inj hf
        subst hf
        exact g
      · have hf := (if_neg c8).symm.trans hf
        replace hf := Option.some.inj hf
        subst hf
        exact g
set_option maxRecDepth 100000 in
theorem fr_X7_against  (τ : Tau) (p1 : Int32) (p2 : Int32) (p3 : Int32) (R : (Int32 × Tau)) (hf : fX7_against τ p1 p2 p3 = some R) : Fr [(0, 0), (0, 17), (0, 18)] [6, 7, 8, 9, 10] τ R.2 := by
  unfold fX7_against at hf
  have g : Fr [(0, 0), (0, 17), (0, 18)] [6, 7, 8, 9, 10] τ τ := Fr.rf
  obtain ⟨t1, et1, hf⟩ := ks_nm hf
  have g := g.tr (show Fr _ _ _ t1 by rw [et1]; exact Fr.sI (by decide))
  obtain ⟨r2, er2, hf⟩ := ks_nm hf
  by_cases c3 : bI r2 = 0
  · have hf := (if_pos c3).symm.trans hf
    replace hf := Option.some.inj hf
    subst hf
    exact g
  · have hf := (if_neg c3).symm.trans hf
    obtain ⟨r4, er4, hf⟩ := ks_nm hf
    by_cases c5 : bI r4 = 0
    · have hf := (if_pos c5).symm.trans hf
      replace hf := Option.some.inj hf
      subst hf
      exact g
    · have hf := (if_neg c5).symm.trans hf
      obtain ⟨r6, er6, hf⟩ := ks_nm hf
      obtain ⟨r7, er7, hf⟩ := ks_nm hf
      by_cases c8 : bI r7 = 0
      · have hf := (if_pos c8).symm.trans hf
        replace hf := Option.some.inj hf
        subst hf
        exact g
      · have hf := (if_neg c8).symm.trans hf
        obtain ⟨r9, er9, hf⟩ := ks_bind hf
        have g := g.tr ((fr_X7_loads _ _ er9).wk (by decide) (by decide))
        obtain ⟨r10, er10, hf⟩ := ks_bind hf
        obtain ⟨r11, er11, hf⟩ := ks_bind hf
        replace hf := Option.some.inj hf
        subst hf
        exact g
set_option maxRecDepth 100000 in
theorem fr_X7_unsaid  (τ : Tau) (p1 : Int32) (R : (Int32 × Tau)) (hf : fX7_unsaid τ p1 = some R) : Fr [(0, 0), (0, 17), (0, 18)] [6, 7, 8, 9, 10] τ R.2 := by
  have L22 : ∀ (n22 : Nat) (τ : Tau) (x_2 : Int32) (x_3 : Int32), fX7_unsaid_22 p1 n22 τ x_2 x_3 = some R → Fr [(0, 0), (0, 17), (0, 18)] [6, 7, 8, 9, 10] τ R.2 := by
    intro n22
    induction n22 with
    | zero => intro τ x_2 x_3 hf; exact absurd hf (by rw [fX7_unsaid_22]; simp)
    | succ n22 ih22 =>
      have L62 : ∀ (τ : Tau) (x_3 : Int32) (z_0 : Int32) (z_1 : Int32), fX7_unsaid_62 p1 (fX7_unsaid_22 p1 n22) τ x_3 z_0 z_1 = some R → Fr [(0, 0), (0, 17), (0, 18)] [6, 7, 8, 9, 10] τ R.2 := by
        intro τ x_3 z_0 z_1 hf
        unfold fX7_unsaid_62 at hf
        have g : Fr [(0, 0), (0, 17), (0, 18)] [6, 7, 8, 9, 10] τ τ := Fr.rf
        obtain ⟨x9, ex9, hf⟩ := ks_nm hf
        obtain ⟨x10, ex10, hf⟩ := ks_nm hf
        exact g.tr (ih22 _ _ _ hf)
      have L61 : ∀ (τ : Tau) (x_3 : Int32) (z_0 : Int32), fX7_unsaid_61 p1 (fX7_unsaid_22 p1 n22) τ x_3 z_0 = some R → Fr [(0, 0), (0, 17), (0, 18)] [6, 7, 8, 9, 10] τ R.2 := by
        intro τ x_3 z_0 hf
        unfold fX7_unsaid_61 at hf
        have g : Fr [(0, 0), (0, 17), (0, 18)] [6, 7, 8, 9, 10] τ τ := Fr.rf
        exact g.tr (L62 _ _ _ _ hf)
      intro τ x_2 x_3 hf
      rw [fX7_unsaid_22] at hf
      have g : Fr [(0, 0), (0, 17), (0, 18)] [6, 7, 8, 9, 10] τ τ := Fr.rf
      by_cases c5 : (10 : Int32) ≤ x_3
      · have hf := (if_pos c5).symm.trans hf
        replace hf := Option.some.inj hf
        subst hf
        exact g
      · have hf := (if_neg c5).symm.trans hf
        by_cases c6 : ((p1 >>> (x_3 &&& 31)) &&& (1 : Int32)) = (1 : Int32)
        · have hf := (if_pos c6).symm.trans hf
          obtain ⟨r7, er7, hf⟩ := ks_bind hf
          by_cases c8 : r7 = (-9 : Int32)
          · have hf := (if_pos c8).symm.trans hf
            exact g.tr (L62 _ _ _ _ hf)
          · have hf := (if_neg c8).symm.trans hf
            exact g.tr (L61 _ _ _ hf)
        · have hf := (if_neg c6).symm.trans hf
          exact g.tr (L61 _ _ _ hf)
  unfold fX7_unsaid at hf
  have g : Fr [(0, 0), (0, 17), (0, 18)] [6, 7, 8, 9, 10] τ τ := Fr.rf
  obtain ⟨t1, et1, hf⟩ := ks_nm hf
  have g := g.tr (show Fr _ _ _ t1 by rw [et1]; exact Fr.sI (by decide))
  obtain ⟨r2, er2, hf⟩ := ks_nm hf
  by_cases c3 : bI r2 = 0
  · have hf := (if_pos c3).symm.trans hf
    replace hf := Option.some.inj hf
    subst hf
    exact g
  · have hf := (if_neg c3).symm.trans hf
    obtain ⟨r4, er4, hf⟩ := ks_bind hf
    have g := g.tr ((fr_X7_loads _ _ er4).wk (by decide) (by decide))
    exact g.tr (L22 FU _ _ _ hf)
set_option maxRecDepth 100000 in
theorem fr_X7_clash  (τ : Tau) (p1 : Int32) (p2 : Int32) (R : (Int32 × Tau)) (hf : fX7_clash τ p1 p2 = some R) : Fr [(0, 0), (0, 17), (0, 18)] [6, 7, 8, 9, 10] τ R.2 := by
  have L43 : ∀ (n43 : Nat) (τ : Tau) (x_3 : Int32) (x_4 : Int32), fX7_clash_43 p1 p2 n43 τ x_3 x_4 = some R → Fr [(0, 0), (0, 17), (0, 18)] [6, 7, 8, 9, 10] τ R.2 := by
    intro n43
    induction n43 with
    | zero => intro τ x_3 x_4 hf; exact absurd hf (by rw [fX7_clash_43]; simp)
    | succ n43 ih43 =>
      have L87 : ∀ (τ : Tau) (x_4 : Int32) (z_0 : Int32), fX7_clash_87 p1 p2 (fX7_clash_43 p1 p2 n43) τ x_4 z_0 = some R → Fr [(0, 0), (0, 17), (0, 18)] [6, 7, 8, 9, 10] τ R.2 := by
        intro τ x_4 z_0 hf
        unfold fX7_clash_87 at hf
        have g : Fr [(0, 0), (0, 17), (0, 18)] [6, 7, 8, 9, 10] τ τ := Fr.rf
        obtain ⟨x19, ex19, hf⟩ := ks_nm hf
        exact g.tr (ih43 _ _ _ hf)
      have L86 : ∀ (τ : Tau) (x_3 : Int32) (x_4 : Int32), fX7_clash_86 p1 p2 (fX7_clash_43 p1 p2 n43) τ x_3 x_4 = some R → Fr [(0, 0), (0, 17), (0, 18)] [6, 7, 8, 9, 10] τ R.2 := by
        intro τ x_3 x_4 hf
        unfold fX7_clash_86 at hf
        have g : Fr [(0, 0), (0, 17), (0, 18)] [6, 7, 8, 9, 10] τ τ := Fr.rf
        exact g.tr (L87 _ _ _ hf)
      intro τ x_3 x_4 hf
      rw [fX7_clash_43] at hf
      have g : Fr [(0, 0), (0, 17), (0, 18)] [6, 7, 8, 9, 10] τ τ := Fr.rf
      by_cases c9 : x_4 < 0
      · have hf := (if_pos c9).symm.trans hf
        by_cases c10 : p2 = 0
        · have hf := (if_pos c10).symm.trans hf
          obtain ⟨r11, er11, hf⟩ := ks_bind hf
          replace hf := Option.some.inj hf
          subst hf
          exact g
        · have hf := (if_neg c10).symm.trans hf
          replace hf := Option.some.inj hf
          subst hf
          exact g
      · have hf := (if_neg c9).symm.trans hf
        obtain ⟨r12, er12, hf⟩ := ks_nm hf
        by_cases c13 : bI r12 = 0
        · have hf := (if_pos c13).symm.trans hf
          exact g.tr (L86 _ _ _ hf)
        · have hf := (if_neg c13).symm.trans hf
          obtain ⟨r14, er14, hf⟩ := ks_bind hf
          obtain ⟨r15, er15, hf⟩ := ks_bind hf
          by_cases c16 : r15 < r14
          · have hf := (if_pos c16).symm.trans hf
            exact g.tr (L86 _ _ _ hf)
          · have hf := (if_neg c16).symm.trans hf
            obtain ⟨r17, er17, hf⟩ := ks_bind hf
            by_cases c18 : r17 = (-9 : Int32)
            · have hf := (if_pos c18).symm.trans hf
              exact g.tr (L87 _ _ _ hf)
            · have hf := (if_neg c18).symm.trans hf
              exact g.tr (L86 _ _ _ hf)
  unfold fX7_clash at hf
  have g : Fr [(0, 0), (0, 17), (0, 18)] [6, 7, 8, 9, 10] τ τ := Fr.rf
  obtain ⟨t1, et1, hf⟩ := ks_nm hf
  have g := g.tr (show Fr _ _ _ t1 by rw [et1]; exact Fr.sI (by decide))
  obtain ⟨r2, er2, hf⟩ := ks_nm hf
  by_cases c3 : bI r2 = 0
  · have hf := (if_pos c3).symm.trans hf
    replace hf := Option.some.inj hf
    subst hf
    exact g
  · have hf := (if_neg c3).symm.trans hf
    obtain ⟨r4, er4, hf⟩ := ks_nm hf
    by_cases c5 : bI r4 = 0
    · have hf := (if_pos c5).symm.trans hf
      replace hf := Option.some.inj hf
      subst hf
      exact g
    · have hf := (if_neg c5).symm.trans hf
      obtain ⟨r6, er6, hf⟩ := ks_bind hf
      have g := g.tr ((fr_X7_loads _ _ er6).wk (by decide) (by decide))
      obtain ⟨r7, er7, hf⟩ := ks_bind hf
      by_cases c8 : r7 ≤ 0
      · have hf := (if_pos c8).symm.trans hf
        exact g.tr (L43 FU _ _ _ hf)
      · have hf := (if_neg c8).symm.trans hf
        replace hf := Option.some.inj hf
        subst hf
        exact g
set_option maxRecDepth 100000 in
theorem fr_X7_ask  (τ : Tau) (p1 : Int32) (R : (Int32 × Tau)) (hf : fX7_ask τ p1 = some R) : Fr [(0, 0), (0, 17), (0, 18)] [6, 7, 8, 9, 10] τ R.2 := by
  have L40 : ∀ (n40 : Nat) (τ : Tau) (x_2 : Int32) (x_3 : Int32) (x_4 : Int32) (x_5 : Int32), fX7_ask_40 p1 n40 τ x_2 x_3 x_4 x_5 = some R → Fr [(0, 0), (0, 17), (0, 18)] [6, 7, 8, 9, 10] τ R.2 := by
    intro n40
    induction n40 with
    | zero => intro τ x_2 x_3 x_4 x_5 hf; exact absurd hf (by rw [fX7_ask_40]; simp)
    | succ n40 ih40 =>
      have L99 : ∀ (τ : Tau) (x_2 : Int32) (x_3 : Int32) (x_4 : Int32) (x_5 : Int32), fX7_ask_99 p1 (fX7_ask_40 p1 n40) τ x_2 x_3 x_4 x_5 = some R → Fr [(0, 0), (0, 17), (0, 18)] [6, 7, 8, 9, 10] τ R.2 := by
        intro τ x_2 x_3 x_4 x_5 hf
        unfold fX7_ask_99 at hf
        have g : Fr [(0, 0), (0, 17), (0, 18)] [6, 7, 8, 9, 10] τ τ := Fr.rf
        obtain ⟨x12, ex12, hf⟩ := ks_nm hf
        exact g.tr (ih40 _ _ _ _ _ hf)
      have L92 : ∀ (τ : Tau) (x_2 : Int32) (x_5 : Int32) (x_7 : Int32), fX7_ask_92 p1 (fX7_ask_40 p1 n40) τ x_2 x_5 x_7 = some R → Fr [(0, 0), (0, 17), (0, 18)] [6, 7, 8, 9, 10] τ R.2 := by
        intro τ x_2 x_5 x_7 hf
        unfold fX7_ask_92 at hf
        have g : Fr [(0, 0), (0, 17), (0, 18)] [6, 7, 8, 9, 10] τ τ := Fr.rf
        exact g.tr (L99 _ _ _ _ _ hf)
      have L77 : ∀ (τ : Tau) (x_2 : Int32) (x_3 : Int32) (x_4 : Int32) (x_5 : Int32) (z_0 : Int32), fX7_ask_77 p1 (fX7_ask_40 p1 n40) τ x_2 x_3 x_4 x_5 z_0 = some R → Fr [(0, 0), (0, 17), (0, 18)] [6, 7, 8, 9, 10] τ R.2 := by
        intro τ x_2 x_3 x_4 x_5 z_0 hf
        unfold fX7_ask_77 at hf
        have g : Fr [(0, 0), (0, 17), (0, 18)] [6, 7, 8, 9, 10] τ τ := Fr.rf
        by_cases c10 : x_3 = (-9 : Int32)
        · have hf := (if_pos c10).symm.trans hf
          exact g.tr (L92 _ _ _ _ hf)
        · have hf := (if_neg c10).symm.trans hf
          by_cases c11 : x_4 ≤ z_0
          · have hf := (if_pos c11).symm.trans hf
            exact g.tr (L99 _ _ _ _ _ hf)
          · have hf := (if_neg c11).symm.trans hf
            exact g.tr (L92 _ _ _ _ hf)
      intro τ x_2 x_3 x_4 x_5 hf
      rw [fX7_ask_40] at hf
      have g : Fr [(0, 0), (0, 17), (0, 18)] [6, 7, 8, 9, 10] τ τ := Fr.rf
      by_cases c7 : (10 : Int32) ≤ x_5
      · have hf := (if_pos c7).symm.trans hf
        replace hf := Option.some.inj hf
        subst hf
        exact g
      · have hf := (if_neg c7).symm.trans hf
        obtain ⟨r8, er8, hf⟩ := ks_bind hf
        by_cases c9 : r8 ≤ (x_2 - r8)
        · have hf := (if_pos c9).symm.trans hf
          exact g.tr (L77 _ _ _ _ _ _ hf)
        · have hf := (if_neg c9).symm.trans hf
          exact g.tr (L77 _ _ _ _ _ _ hf)
  unfold fX7_ask at hf
  have g : Fr [(0, 0), (0, 17), (0, 18)] [6, 7, 8, 9, 10] τ τ := Fr.rf
  obtain ⟨t1, et1, hf⟩ := ks_nm hf
  have g := g.tr (show Fr _ _ _ t1 by rw [et1]; exact Fr.sI (by decide))
  obtain ⟨r2, er2, hf⟩ := ks_nm hf
  by_cases c3 : bI r2 = 0
  · have hf := (if_pos c3).symm.trans hf
    replace hf := Option.some.inj hf
    subst hf
    exact g
  · have hf := (if_neg c3).symm.trans hf
    obtain ⟨r4, er4, hf⟩ := ks_bind hf
    have g := g.tr ((fr_X7_loads _ _ er4).wk (by decide) (by decide))
    obtain ⟨r5, er5, hf⟩ := ks_bind hf
    by_cases c6 : r5 = 0
    · have hf := (if_pos c6).symm.trans hf
      replace hf := Option.some.inj hf
      subst hf
      exact g
    · have hf := (if_neg c6).symm.trans hf
      exact g.tr (L40 FU _ _ _ _ _ hf)
set_option maxRecDepth 100000 in
theorem fr_X7_heaps  (τ : Tau) (p1 : Int32) (R : (Int32 × Tau)) (hf : fX7_heaps τ p1 = some R) : Fr [(0, 0), (0, 17), (0, 18)] [6, 7, 8, 9, 10] τ R.2 := by
  have L22 : ∀ (n22 : Nat) (τ : Tau) (x_2 : Int32) (x_3 : Int32), fX7_heaps_22 p1 n22 τ x_2 x_3 = some R → Fr [(0, 0), (0, 17), (0, 18)] [6, 7, 8, 9, 10] τ R.2 := by
    intro n22
    induction n22 with
    | zero => intro τ x_2 x_3 hf; exact absurd hf (by rw [fX7_heaps_22]; simp)
    | succ n22 ih22 =>
      have L52 : ∀ (τ : Tau) (x_3 : Int32) (z_0 : Int32) (z_1 : Int32), fX7_heaps_52 p1 (fX7_heaps_22 p1 n22) τ x_3 z_0 z_1 = some R → Fr [(0, 0), (0, 17), (0, 18)] [6, 7, 8, 9, 10] τ R.2 := by
        intro τ x_3 z_0 z_1 hf
        unfold fX7_heaps_52 at hf
        have g : Fr [(0, 0), (0, 17), (0, 18)] [6, 7, 8, 9, 10] τ τ := Fr.rf
        obtain ⟨x10, ex10, hf⟩ := ks_nm hf
        obtain ⟨x11, ex11, hf⟩ := ks_nm hf
        exact g.tr (ih22 _ _ _ hf)
      have L51 : ∀ (τ : Tau) (x_3 : Int32) (z_0 : Int32), fX7_heaps_51 p1 (fX7_heaps_22 p1 n22) τ x_3 z_0 = some R → Fr [(0, 0), (0, 17), (0, 18)] [6, 7, 8, 9, 10] τ R.2 := by
        intro τ x_3 z_0 hf
        unfold fX7_heaps_51 at hf
        have g : Fr [(0, 0), (0, 17), (0, 18)] [6, 7, 8, 9, 10] τ τ := Fr.rf
        exact g.tr (L52 _ _ _ _ hf)
      intro τ x_2 x_3 hf
      rw [fX7_heaps_22] at hf
      have g : Fr [(0, 0), (0, 17), (0, 18)] [6, 7, 8, 9, 10] τ τ := Fr.rf
      by_cases c5 : (1024 : Int32) ≤ x_3
      · have hf := (if_pos c5).symm.trans hf
        replace hf := Option.some.inj hf
        subst hf
        exact g
      · have hf := (if_neg c5).symm.trans hf
        obtain ⟨b6, hf⟩ := ks_ok hf
        by_cases c7 : tA τ 7 x_3.toNatClampNeg ≤ 0
        · have hf := (if_pos c7).symm.trans hf
          exact g.tr (L51 _ _ _ hf)
        · have hf := (if_neg c7).symm.trans hf
          obtain ⟨r8, er8, hf⟩ := ks_nm hf
          by_cases c9 : bI r8 = 0
          · have hf := (if_pos c9).symm.trans hf
            exact g.tr (L51 _ _ _ hf)
          · have hf := (if_neg c9).symm.trans hf
            exact g.tr (L52 _ _ _ _ hf)
  unfold fX7_heaps at hf
  have g : Fr [(0, 0), (0, 17), (0, 18)] [6, 7, 8, 9, 10] τ τ := Fr.rf
  obtain ⟨t1, et1, hf⟩ := ks_nm hf
  have g := g.tr (show Fr _ _ _ t1 by rw [et1]; exact Fr.sI (by decide))
  obtain ⟨r2, er2, hf⟩ := ks_nm hf
  by_cases c3 : bI r2 = 0
  · have hf := (if_pos c3).symm.trans hf
    replace hf := Option.some.inj hf
    subst hf
    exact g
  · have hf := (if_neg c3).symm.trans hf
    obtain ⟨r4, er4, hf⟩ := ks_bind hf
    have g := g.tr ((fr_X7_loads _ _ er4).wk (by decide) (by decide))
    exact g.tr (L22 FU _ _ _ hf)
set_option maxRecDepth 100000 in
theorem fr_X7_twin  (τ : Tau) (p1 : Int32) (R : (Int32 × Tau)) (hf : fX7_twin τ p1 = some R) : Fr [(0, 0), (0, 17), (0, 18)] [6, 7, 8, 9, 10] τ R.2 := by
  have L20 : ∀ (n20 : Nat) (τ : Tau) (x_2 : Int32), fX7_twin_20 p1 n20 τ x_2 = some R → Fr [(0, 0), (0, 17), (0, 18)] [6, 7, 8, 9, 10] τ R.2 := by
    intro n20
    induction n20 with
    | zero => intro τ x_2 hf; exact absurd hf (by rw [fX7_twin_20]; simp)
    | succ n20 ih20 =>
      have L89 : ∀ (τ : Tau) (x_2 : Int32) (x_3 : Int32), fX7_twin_89 p1 (fX7_twin_20 p1 n20) τ x_2 x_3 = some R → Fr [(0, 0), (0, 17), (0, 18)] [6, 7, 8, 9, 10] τ R.2 := by
        intro τ x_2 x_3 hf
        unfold fX7_twin_89 at hf
        have g : Fr [(0, 0), (0, 17), (0, 18)] [6, 7, 8, 9, 10] τ τ := Fr.rf
        by_cases c13 : x_3 = 0
        · have hf := (if_pos c13).symm.trans hf
          obtain ⟨x14, ex14, hf⟩ := ks_nm hf
          exact g.tr (ih20 _ _ hf)
        · have hf := (if_neg c13).symm.trans hf
          replace hf := Option.some.inj hf
          subst hf
          exact g
      have L40 : ∀ (n40 : Nat) (τ : Tau) (x_2 : Int32) (x_3 : Int32) (x_4 : Int32), fX7_twin_40 p1 (fX7_twin_20 p1 n20) n40 τ x_2 x_3 x_4 = some R → Fr [(0, 0), (0, 17), (0, 18)] [6, 7, 8, 9, 10] τ R.2 := by
        intro n40
        induction n40 with
        | zero => intro τ x_2 x_3 x_4 hf; exact absurd hf (by rw [fX7_twin_40]; simp)
        | succ n40 ih40 =>
          have L82 : ∀ (τ : Tau) (x_2 : Int32) (x_4 : Int32) (z_0 : Int32), fX7_twin_82 p1 (fX7_twin_20 p1 n20) (fX7_twin_40 p1 (fX7_twin_20 p1 n20) n40) τ x_2 x_4 z_0 = some R → Fr [(0, 0), (0, 17), (0, 18)] [6, 7, 8, 9, 10] τ R.2 := by
            intro τ x_2 x_4 z_0 hf
            unfold fX7_twin_82 at hf
            have g : Fr [(0, 0), (0, 17), (0, 18)] [6, 7, 8, 9, 10] τ τ := Fr.rf
            obtain ⟨x12, ex12, hf⟩ := ks_nm hf
            exact g.tr (ih40 _ _ _ _ hf)
          have L77 : ∀ (τ : Tau) (x_2 : Int32) (x_4 : Int32), fX7_twin_77 p1 (fX7_twin_20 p1 n20) (fX7_twin_40 p1 (fX7_twin_20 p1 n20) n40) τ x_2 x_4 = some R → Fr [(0, 0), (0, 17), (0, 18)] [6, 7, 8, 9, 10] τ R.2 := by
            intro τ x_2 x_4 hf
            unfold fX7_twin_77 at hf
            have g : Fr [(0, 0), (0, 17), (0, 18)] [6, 7, 8, 9, 10] τ τ := Fr.rf
            exact g.tr (L82 _ _ _ _ hf)
          intro τ x_2 x_3 x_4 hf
          rw [fX7_twin_40] at hf
          have g : Fr [(0, 0), (0, 17), (0, 18)] [6, 7, 8, 9, 10] τ τ := Fr.rf
          by_cases c7 : (1024 : Int32) ≤ x_4
          · have hf := (if_pos c7).symm.trans hf
            exact g.tr (L89 _ _ _ hf)
          · have hf := (if_neg c7).symm.trans hf
            by_cases c8 : x_3 = 0
            · have hf := (if_pos c8).symm.trans hf
              exact g.tr (L89 _ _ _ hf)
            · have hf := (if_neg c8).symm.trans hf
              obtain ⟨b9, hf⟩ := ks_ok hf
              by_cases c10 : tA τ 7 x_4.toNatClampNeg = 0
              · have hf := (if_pos c10).symm.trans hf
                exact g.tr (L77 _ _ _ hf)
              · have hf := (if_neg c10).symm.trans hf
                by_cases c11 : ((x_4 >>> (p1 &&& 31)) &&& (1 : Int32)) = ((x_4 >>> (x_2 &&& 31)) &&& (1 : Int32))
                · have hf := (if_pos c11).symm.trans hf
                  exact g.tr (L77 _ _ _ hf)
                · have hf := (if_neg c11).symm.trans hf
                  exact g.tr (L82 _ _ _ _ hf)
      have L36 : ∀ (τ : Tau) (x_2 : Int32) (z_0 : Int32), fX7_twin_36 p1 (fX7_twin_20 p1 n20) τ x_2 z_0 = some R → Fr [(0, 0), (0, 17), (0, 18)] [6, 7, 8, 9, 10] τ R.2 := by
        intro τ x_2 z_0 hf
        unfold fX7_twin_36 at hf
        have g : Fr [(0, 0), (0, 17), (0, 18)] [6, 7, 8, 9, 10] τ τ := Fr.rf
        exact g.tr (L40 FU _ _ _ _ hf)
      intro τ x_2 hf
      rw [fX7_twin_20] at hf
      have g : Fr [(0, 0), (0, 17), (0, 18)] [6, 7, 8, 9, 10] τ τ := Fr.rf
      by_cases c5 : (10 : Int32) ≤ x_2
      · have hf := (if_pos c5).symm.trans hf
        replace hf := Option.some.inj hf
        subst hf
        exact g
      · have hf := (if_neg c5).symm.trans hf
        by_cases c6 : x_2 = p1
        · have hf := (if_pos c6).symm.trans hf
          exact g.tr (L36 _ _ _ hf)
        · have hf := (if_neg c6).symm.trans hf
          exact g.tr (L36 _ _ _ hf)
  unfold fX7_twin at hf
  have g : Fr [(0, 0), (0, 17), (0, 18)] [6, 7, 8, 9, 10] τ τ := Fr.rf
  obtain ⟨t1, et1, hf⟩ := ks_nm hf
  have g := g.tr (show Fr _ _ _ t1 by rw [et1]; exact Fr.sI (by decide))
  obtain ⟨r2, er2, hf⟩ := ks_nm hf
  by_cases c3 : bI r2 = 0
  · have hf := (if_pos c3).symm.trans hf
    replace hf := Option.some.inj hf
    subst hf
    exact g
  · have hf := (if_neg c3).symm.trans hf
    obtain ⟨r4, er4, hf⟩ := ks_bind hf
    have g := g.tr ((fr_X7_loads _ _ er4).wk (by decide) (by decide))
    exact g.tr (L20 FU _ _ hf)
set_option maxRecDepth 100000 in
theorem fr_X7_moods  (τ : Tau) (p1 : Int32) (R : (Int32 × Tau)) (hf : fX7_moods τ p1 = R) : Fr [(0, 0), (0, 3)] [] τ R.2 := by
  unfold fX7_moods at hf
  have g : Fr [(0, 0), (0, 3)] [] τ τ := Fr.rf
  obtain ⟨t1, et1, hf⟩ := ks_nm hf
  have g := g.tr (show Fr _ _ _ t1 by rw [et1]; exact Fr.sI (by decide))
  obtain ⟨r2, er2, hf⟩ := ks_nm hf
  by_cases c3 : bI r2 = 0
  · have hf := (if_pos c3).symm.trans hf
    subst hf
    exact g
  · have hf := (if_neg c3).symm.trans hf
    obtain ⟨x4, ex4, hf⟩ := ks_nm hf
    obtain ⟨t5, et5, hf⟩ := ks_nm hf
    have g := g.tr (show Fr _ _ _ t5 by rw [et5]; exact Fr.sI (by decide))
    subst hf
    exact g
set_option maxRecDepth 100000 in
theorem fr_X7_isShown  (τ : Tau) (p1 : Int32) (p2 : Int32) (p3 : Int32) (p4 : Int32) (p5 : Int32) (R : (Bool × Tau)) (hf : fX7_isShown τ p1 p2 p3 p4 p5 = some R) : Fr [(0, 26), (0, 27), (0, 28)] [] τ R.2 := by
  have L166 : ∀ (n166 : Nat) (τ : Tau) (x_7 : Int32) (x_8 : Int32), fX7_isShown_166 p1 p2 p3 p4 p5 n166 τ x_7 x_8 = some R → Fr [(0, 26), (0, 27), (0, 28)] [] τ R.2 := by
    intro n166
    induction n166 with
    | zero => intro τ x_7 x_8 hf; exact absurd hf (by rw [fX7_isShown_166]; simp)
    | succ n166 ih166 =>
      have L291 : ∀ (τ : Tau) (x_7 : Int32) (x_8 : Int32), fX7_isShown_291 p1 p2 p3 p4 p5 (fX7_isShown_166 p1 p2 p3 p4 p5 n166) τ x_7 x_8 = some R → Fr [(0, 26), (0, 27), (0, 28)] [] τ R.2 := by
        intro τ x_7 x_8 hf
        unfold fX7_isShown_291 at hf
        have g : Fr [(0, 26), (0, 27), (0, 28)] [] τ τ := Fr.rf
        obtain ⟨x25, ex25, hf⟩ := ks_nm hf
        exact g.tr (ih166 _ _ _ hf)
      have L253 : ∀ (τ : Tau) (x_7 : Int32) (x_8 : Int32) (x_9 : Int32) (z_0 : Int32), fX7_isShown_253 p1 p2 p3 p4 p5 (fX7_isShown_166 p1 p2 p3 p4 p5 n166) τ x_7 x_8 x_9 z_0 = some R → Fr [(0, 26), (0, 27), (0, 28)] [] τ R.2 := by
        intro τ x_7 x_8 x_9 z_0 hf
        unfold fX7_isShown_253 at hf
        have g : Fr [(0, 26), (0, 27), (0, 28)] [] τ τ := Fr.rf
        obtain ⟨r19, er19, hf⟩ := ks_bind hf
        by_cases c20 : bI r19 = 0
        · have hf := (if_pos c20).symm.trans hf
          exact g.tr (L291 _ _ _ hf)
        · have hf := (if_neg c20).symm.trans hf
          obtain ⟨r21, er21, hf⟩ := ks_bind hf
          by_cases c22 : bI r21 = 0
          · have hf := (if_pos c22).symm.trans hf
            exact g.tr (L291 _ _ _ hf)
          · have hf := (if_neg c22).symm.trans hf
            obtain ⟨t23, et23, hf⟩ := ks_nm hf
            have g := g.tr (show Fr _ _ _ t23 by rw [et23]; exact Fr.sI (by decide))
            obtain ⟨t24, et24, hf⟩ := ks_nm hf
            have g := g.tr (show Fr _ _ _ t24 by rw [et24]; exact Fr.sI (by decide))
            replace hf := Option.some.inj hf
            subst hf
            exact g
      have L244 : ∀ (τ : Tau) (x_7 : Int32) (x_8 : Int32) (x_9 : Int32) (z_0 : Int32) (z_1 : Int32), fX7_isShown_244 p1 p2 p3 p4 p5 (fX7_isShown_166 p1 p2 p3 p4 p5 n166) τ x_7 x_8 x_9 z_0 z_1 = some R → Fr [(0, 26), (0, 27), (0, 28)] [] τ R.2 := by
        intro τ x_7 x_8 x_9 z_0 z_1 hf
        unfold fX7_isShown_244 at hf
        have g : Fr [(0, 26), (0, 27), (0, 28)] [] τ τ := Fr.rf
        exact g.tr (L253 _ _ _ _ _ hf)
      have L239 : ∀ (τ : Tau) (x_7 : Int32) (x_8 : Int32) (x_9 : Int32) (z_0 : Int32), fX7_isShown_239 p1 p2 p3 p4 p5 (fX7_isShown_166 p1 p2 p3 p4 p5 n166) τ x_7 x_8 x_9 z_0 = some R → Fr [(0, 26), (0, 27), (0, 28)] [] τ R.2 := by
        intro τ x_7 x_8 x_9 z_0 hf
        unfold fX7_isShown_239 at hf
        have g : Fr [(0, 26), (0, 27), (0, 28)] [] τ τ := Fr.rf
        exact g.tr (L244 _ _ _ _ _ _ hf)
      have L201 : ∀ (τ : Tau) (x_7 : Int32) (x_8 : Int32) (z_0 : Int32) (z_1 : Int32), fX7_isShown_201 p1 p2 p3 p4 p5 (fX7_isShown_166 p1 p2 p3 p4 p5 n166) τ x_7 x_8 z_0 z_1 = some R → Fr [(0, 26), (0, 27), (0, 28)] [] τ R.2 := by
        intro τ x_7 x_8 z_0 z_1 hf
        unfold fX7_isShown_201 at hf
        have g : Fr [(0, 26), (0, 27), (0, 28)] [] τ τ := Fr.rf
        obtain ⟨x15, ex15, hf⟩ := ks_nm hf
        by_cases c16 : p1 = (6 : Int32)
        · have hf := (if_pos c16).symm.trans hf
          exact g.tr (L253 _ _ _ _ _ hf)
        · have hf := (if_neg c16).symm.trans hf
          by_cases c17 : p1 = (1 : Int32)
          · have hf := (if_pos c17).symm.trans hf
            exact g.tr (L239 _ _ _ _ _ hf)
          · have hf := (if_neg c17).symm.trans hf
            by_cases c18 : p1 = (3 : Int32)
            · have hf := (if_pos c18).symm.trans hf
              exact g.tr (L239 _ _ _ _ _ hf)
            · have hf := (if_neg c18).symm.trans hf
              exact g.tr (L244 _ _ _ _ _ _ hf)
      intro τ x_7 x_8 hf
      rw [fX7_isShown_166] at hf
      have g : Fr [(0, 26), (0, 27), (0, 28)] [] τ τ := Fr.rf
      by_cases c11 : tI τ 0 1 ≤ x_8
      · have hf := (if_pos c11).symm.trans hf
        replace hf := Option.some.inj hf
        subst hf
        exact g
      · have hf := (if_neg c11).symm.trans hf
        by_cases c12 : x_7 = 0
        · have hf := (if_pos c12).symm.trans hf
          replace hf := Option.some.inj hf
          subst hf
          exact g
        · have hf := (if_neg c12).symm.trans hf
          by_cases c13 : (2 : Int32) ≤ p1
          · have hf := (if_pos c13).symm.trans hf
            by_cases c14 : (4 : Int32) ≤ p1
            · have hf := (if_pos c14).symm.trans hf
              exact g.tr (L201 _ _ _ _ _ hf)
            · have hf := (if_neg c14).symm.trans hf
              exact g.tr (L201 _ _ _ _ _ hf)
          · have hf := (if_neg c13).symm.trans hf
            exact g.tr (L201 _ _ _ _ _ hf)
  have L161 : ∀ (τ : Tau) (z_0 : Int32), fX7_isShown_161 p1 p2 p3 p4 p5 τ z_0 = some R → Fr [(0, 26), (0, 27), (0, 28)] [] τ R.2 := by
    intro τ z_0 hf
    unfold fX7_isShown_161 at hf
    have g : Fr [(0, 26), (0, 27), (0, 28)] [] τ τ := Fr.rf
    exact g.tr (L166 FU _ _ _ hf)
  have L160 : ∀ (τ : Tau), fX7_isShown_160 p1 p2 p3 p4 p5 τ = some R → Fr [(0, 26), (0, 27), (0, 28)] [] τ R.2 := by
    intro τ hf
    unfold fX7_isShown_160 at hf
    have g : Fr [(0, 26), (0, 27), (0, 28)] [] τ τ := Fr.rf
    exact g.tr (L161 _ _ hf)
  have L156 : ∀ (τ : Tau), fX7_isShown_156 p1 p2 p3 p4 p5 τ = some R → Fr [(0, 26), (0, 27), (0, 28)] [] τ R.2 := by
    intro τ hf
    unfold fX7_isShown_156 at hf
    have g : Fr [(0, 26), (0, 27), (0, 28)] [] τ τ := Fr.rf
    exact g.tr (L161 _ _ hf)
  have L145 : ∀ (τ : Tau), fX7_isShown_145 p1 p2 p3 p4 p5 τ = some R → Fr [(0, 26), (0, 27), (0, 28)] [] τ R.2 := by
    intro τ hf
    unfold fX7_isShown_145 at hf
    have g : Fr [(0, 26), (0, 27), (0, 28)] [] τ τ := Fr.rf
    by_cases c32 : p1 = (6 : Int32)
    · have hf := (if_pos c32).symm.trans hf
      by_cases c33 : p2 = (3 : Int32)
      · have hf := (if_pos c33).symm.trans hf
        exact g.tr (L156 _ hf)
      · have hf := (if_neg c33).symm.trans hf
        exact g.tr (L160 _ hf)
    · have hf := (if_neg c32).symm.trans hf
      exact g.tr (L160 _ hf)
  have L135 : ∀ (τ : Tau), fX7_isShown_135 p1 p2 p3 p4 p5 τ = some R → Fr [(0, 26), (0, 27), (0, 28)] [] τ R.2 := by
    intro τ hf
    unfold fX7_isShown_135 at hf
    have g : Fr [(0, 26), (0, 27), (0, 28)] [] τ τ := Fr.rf
    by_cases c30 : p1 = (3 : Int32)
    · have hf := (if_pos c30).symm.trans hf
      by_cases c31 : p2 = (3 : Int32)
      · have hf := (if_pos c31).symm.trans hf
        exact g.tr (L156 _ hf)
      · have hf := (if_neg c31).symm.trans hf
        exact g.tr (L145 _ hf)
    · have hf := (if_neg c30).symm.trans hf
      exact g.tr (L145 _ hf)
  have L125 : ∀ (τ : Tau), fX7_isShown_125 p1 p2 p3 p4 p5 τ = some R → Fr [(0, 26), (0, 27), (0, 28)] [] τ R.2 := by
    intro τ hf
    unfold fX7_isShown_125 at hf
    have g : Fr [(0, 26), (0, 27), (0, 28)] [] τ τ := Fr.rf
    by_cases c28 : p1 = (2 : Int32)
    · have hf := (if_pos c28).symm.trans hf
      by_cases c29 : p2 = (1 : Int32)
      · have hf := (if_pos c29).symm.trans hf
        exact g.tr (L156 _ hf)
      · have hf := (if_neg c29).symm.trans hf
        exact g.tr (L135 _ hf)
    · have hf := (if_neg c28).symm.trans hf
      exact g.tr (L135 _ hf)
  have L115 : ∀ (τ : Tau), fX7_isShown_115 p1 p2 p3 p4 p5 τ = some R → Fr [(0, 26), (0, 27), (0, 28)] [] τ R.2 := by
    intro τ hf
    unfold fX7_isShown_115 at hf
    have g : Fr [(0, 26), (0, 27), (0, 28)] [] τ τ := Fr.rf
    by_cases c26 : p1 = (1 : Int32)
    · have hf := (if_pos c26).symm.trans hf
      by_cases c27 : p2 = (2 : Int32)
      · have hf := (if_pos c27).symm.trans hf
        exact g.tr (L156 _ hf)
      · have hf := (if_neg c27).symm.trans hf
        exact g.tr (L125 _ hf)
    · have hf := (if_neg c26).symm.trans hf
      exact g.tr (L125 _ hf)
  have L83 : ∀ (τ : Tau) (z_0 : Int32), fX7_isShown_83 p1 p2 p3 p4 p5 τ z_0 = some R → Fr [(0, 26), (0, 27), (0, 28)] [] τ R.2 := by
    intro τ z_0 hf
    unfold fX7_isShown_83 at hf
    have g : Fr [(0, 26), (0, 27), (0, 28)] [] τ τ := Fr.rf
    by_cases c6 : z_0 = (-9 : Int32)
    · have hf := (if_pos c6).symm.trans hf
      by_cases c7 : p1 = 0
      · have hf := (if_pos c7).symm.trans hf
        by_cases c8 : p2 = 0
        · have hf := (if_pos c8).symm.trans hf
          exact g.tr (L156 _ hf)
        · have hf := (if_neg c8).symm.trans hf
          exact g.tr (L115 _ hf)
      · have hf := (if_neg c7).symm.trans hf
        exact g.tr (L115 _ hf)
    · have hf := (if_neg c6).symm.trans hf
      obtain ⟨t9, et9, hf⟩ := ks_nm hf
      have g := g.tr (show Fr _ _ _ t9 by rw [et9]; exact Fr.sI (by decide))
      obtain ⟨r10, er10, hf⟩ := ks_bind hf
      replace hf := Option.some.inj hf
      subst hf
      exact g
  have L81 : ∀ (τ : Tau), fX7_isShown_81 p1 p2 p3 p4 p5 τ = some R → Fr [(0, 26), (0, 27), (0, 28)] [] τ R.2 := by
    intro τ hf
    unfold fX7_isShown_81 at hf
    have g : Fr [(0, 26), (0, 27), (0, 28)] [] τ τ := Fr.rf
    exact g.tr (L83 _ _ hf)
  have L61 : ∀ (τ : Tau), fX7_isShown_61 p1 p2 p3 p4 p5 τ = some R → Fr [(0, 26), (0, 27), (0, 28)] [] τ R.2 := by
    intro τ hf
    unfold fX7_isShown_61 at hf
    have g : Fr [(0, 26), (0, 27), (0, 28)] [] τ τ := Fr.rf
    by_cases c36 : p1 = (8 : Int32)
    · have hf := (if_pos c36).symm.trans hf
      by_cases c37 : p2 = (1 : Int32)
      · have hf := (if_pos c37).symm.trans hf
        exact g.tr (L83 _ _ hf)
      · have hf := (if_neg c37).symm.trans hf
        exact g.tr (L81 _ hf)
    · have hf := (if_neg c36).symm.trans hf
      exact g.tr (L81 _ hf)
  have L39 : ∀ (τ : Tau), fX7_isShown_39 p1 p2 p3 p4 p5 τ = some R → Fr [(0, 26), (0, 27), (0, 28)] [] τ R.2 := by
    intro τ hf
    unfold fX7_isShown_39 at hf
    have g : Fr [(0, 26), (0, 27), (0, 28)] [] τ τ := Fr.rf
    by_cases c34 : p1 = (5 : Int32)
    · have hf := (if_pos c34).symm.trans hf
      by_cases c35 : p2 = (1 : Int32)
      · have hf := (if_pos c35).symm.trans hf
        exact g.tr (L83 _ _ hf)
      · have hf := (if_neg c35).symm.trans hf
        exact g.tr (L61 _ hf)
    · have hf := (if_neg c34).symm.trans hf
      exact g.tr (L61 _ hf)
  unfold fX7_isShown at hf
  have g : Fr [(0, 26), (0, 27), (0, 28)] [] τ τ := Fr.rf
  obtain ⟨t1, et1, hf⟩ := ks_nm hf
  have g := g.tr (show Fr _ _ _ t1 by rw [et1]; exact Fr.sI (by decide))
  obtain ⟨t2, et2, hf⟩ := ks_nm hf
  have g := g.tr (show Fr _ _ _ t2 by rw [et2]; exact Fr.sI (by decide))
  obtain ⟨t3, et3, hf⟩ := ks_nm hf
  have g := g.tr (show Fr _ _ _ t3 by rw [et3]; exact Fr.sI (by decide))
  by_cases c4 : p1 = (4 : Int32)
  · have hf := (if_pos c4).symm.trans hf
    by_cases c5 : p2 = (2 : Int32)
    · have hf := (if_pos c5).symm.trans hf
      exact g.tr (L83 _ _ hf)
    · have hf := (if_neg c5).symm.trans hf
      exact g.tr (L39 _ hf)
  · have hf := (if_neg c4).symm.trans hf
    exact g.tr (L39 _ hf)
set_option maxRecDepth 100000 in
theorem fr_X7_shows  (τ : Tau) (p1 : Int32) (R : Tau) (hf : fX7_shows τ p1 = some R) : Fr [(0, 25), (0, 26), (0, 27), (0, 28)] [11] τ R := by
  have L90 : ∀ (n90 : Nat) (τ : Tau) (x_2 : Int32), fX7_shows_90 p1 n90 τ x_2 = some R → Fr [(0, 25), (0, 26), (0, 27), (0, 28)] [11] τ R := by
    intro n90
    induction n90 with
    | zero => intro τ x_2 hf; exact absurd hf (by rw [fX7_shows_90]; simp)
    | succ n90 ih90 =>
      have L259 : ∀ (τ : Tau) (x_2 : Int32) (z_0 : Int32) (z_1 : Int32), fX7_shows_259 p1 (fX7_shows_90 p1 n90) τ x_2 z_0 z_1 = some R → Fr [(0, 25), (0, 26), (0, 27), (0, 28)] [11] τ R := by
        intro τ x_2 z_0 z_1 hf
        unfold fX7_shows_259 at hf
        have g : Fr [(0, 25), (0, 26), (0, 27), (0, 28)] [11] τ τ := Fr.rf
        obtain ⟨t31, et31, hf⟩ := ks_nm hf
        have g := g.tr (show Fr _ _ _ t31 by rw [et31]; exact Fr.sI (by decide))
        exact g.tr (ih90 _ _ hf)
      have L98 : ∀ (n98 : Nat) (τ : Tau) (x_2 : Int32) (x_3 : Int32), fX7_shows_98 p1 (fX7_shows_90 p1 n90) n98 τ x_2 x_3 = some R → Fr [(0, 25), (0, 26), (0, 27), (0, 28)] [11] τ R := by
        intro n98
        induction n98 with
        | zero => intro τ x_2 x_3 hf; exact absurd hf (by rw [fX7_shows_98]; simp)
        | succ n98 ih98 =>
          have L239 : ∀ (τ : Tau) (x_2 : Int32) (x_3 : Int32), fX7_shows_239 p1 (fX7_shows_90 p1 n90) (fX7_shows_98 p1 (fX7_shows_90 p1 n90) n98) τ x_2 x_3 = some R → Fr [(0, 25), (0, 26), (0, 27), (0, 28)] [11] τ R := by
            intro τ x_2 x_3 hf
            unfold fX7_shows_239 at hf
            have g : Fr [(0, 25), (0, 26), (0, 27), (0, 28)] [11] τ τ := Fr.rf
            obtain ⟨x30, ex30, hf⟩ := ks_nm hf
            exact g.tr (ih98 _ _ _ hf)
          have L220 : ∀ (τ : Tau) (x_2 : Int32) (x_3 : Int32) (x_5 : Int32), fX7_shows_220 p1 (fX7_shows_90 p1 n90) (fX7_shows_98 p1 (fX7_shows_90 p1 n90) n98) τ x_2 x_3 x_5 = some R → Fr [(0, 25), (0, 26), (0, 27), (0, 28)] [11] τ R := by
            intro τ x_2 x_3 x_5 hf
            unfold fX7_shows_220 at hf
            have g : Fr [(0, 25), (0, 26), (0, 27), (0, 28)] [11] τ τ := Fr.rf
            by_cases c27 : x_5 = 0
            · have hf := (if_pos c27).symm.trans hf
              exact g.tr (L239 _ _ _ hf)
            · have hf := (if_neg c27).symm.trans hf
              obtain ⟨b28, hf⟩ := ks_ok hf
              obtain ⟨t29, et29, hf⟩ := ks_nm hf
              have g := g.tr (show Fr _ _ _ t29 by rw [et29]; exact Fr.sA (by decide))
              exact g.tr (L239 _ _ _ hf)
          have L150 : ∀ (n150 : Nat) (τ : Tau) (x_2 : Int32) (x_3 : Int32) (x_4 : Int32) (x_5 : Int32) (x_6 : Int32), fX7_shows_150 p1 (fX7_shows_90 p1 n90) (fX7_shows_98 p1 (fX7_shows_90 p1 n90) n98) n150 τ x_2 x_3 x_4 x_5 x_6 = some R → Fr [(0, 25), (0, 26), (0, 27), (0, 28)] [11] τ R := by
            intro n150
            induction n150 with
            | zero => intro τ x_2 x_3 x_4 x_5 x_6 hf; exact absurd hf (by rw [fX7_shows_150]; simp)
            | succ n150 ih150 =>
              have L212 : ∀ (τ : Tau) (x_2 : Int32) (x_3 : Int32) (x_4 : Int32) (x_6 : Int32) (z_0 : Int32), fX7_shows_212 p1 (fX7_shows_90 p1 n90) (fX7_shows_98 p1 (fX7_shows_90 p1 n90) n98) (fX7_shows_150 p1 (fX7_shows_90 p1 n90) (fX7_shows_98 p1 (fX7_shows_90 p1 n90) n98) n150) τ x_2 x_3 x_4 x_6 z_0 = some R → Fr [(0, 25), (0, 26), (0, 27), (0, 28)] [11] τ R := by
                intro τ x_2 x_3 x_4 x_6 z_0 hf
                unfold fX7_shows_212 at hf
                have g : Fr [(0, 25), (0, 26), (0, 27), (0, 28)] [11] τ τ := Fr.rf
                obtain ⟨x26, ex26, hf⟩ := ks_nm hf
                exact g.tr (ih150 _ _ _ _ _ _ hf)
              have L211 : ∀ (τ : Tau) (x_2 : Int32) (x_3 : Int32) (x_4 : Int32) (x_6 : Int32), fX7_shows_211 p1 (fX7_shows_90 p1 n90) (fX7_shows_98 p1 (fX7_shows_90 p1 n90) n98) (fX7_shows_150 p1 (fX7_shows_90 p1 n90) (fX7_shows_98 p1 (fX7_shows_90 p1 n90) n98) n150) τ x_2 x_3 x_4 x_6 = some R → Fr [(0, 25), (0, 26), (0, 27), (0, 28)] [11] τ R := by
                intro τ x_2 x_3 x_4 x_6 hf
                unfold fX7_shows_211 at hf
                have g : Fr [(0, 25), (0, 26), (0, 27), (0, 28)] [11] τ τ := Fr.rf
                exact g.tr (L212 _ _ _ _ _ _ hf)
              intro τ x_2 x_3 x_4 x_5 x_6 hf
              rw [fX7_shows_150] at hf
              have g : Fr [(0, 25), (0, 26), (0, 27), (0, 28)] [11] τ τ := Fr.rf
              by_cases c20 : (9 : Int32) ≤ x_6
              · have hf := (if_pos c20).symm.trans hf
                exact g.tr (L220 _ _ _ _ hf)
              · have hf := (if_neg c20).symm.trans hf
                by_cases c21 : x_4 = 0
                · have hf := (if_pos c21).symm.trans hf
                  exact g.tr (L220 _ _ _ _ hf)
                · have hf := (if_neg c21).symm.trans hf
                  by_cases c22 : x_5 = 0
                  · have hf := (if_pos c22).symm.trans hf
                    by_cases c23 : ((tI τ 0 3 >>> (x_6 &&& 31)) &&& (1 : Int32)) = (1 : Int32)
                    · have hf := (if_pos c23).symm.trans hf
                      obtain ⟨r24, er24, hf⟩ := ks_bind hf
                      have g := g.tr ((fr_X7_isShown _ _ _ _ _ _ _ er24).wk (by decide) (by decide))
                      by_cases c25 : bI r24.1 = 0
                      · have hf := (if_pos c25).symm.trans hf
                        exact g.tr (L211 _ _ _ _ _ hf)
                      · have hf := (if_neg c25).symm.trans hf
                        exact g.tr (L212 _ _ _ _ _ _ hf)
                    · have hf := (if_neg c23).symm.trans hf
                      exact g.tr (L211 _ _ _ _ _ hf)
                  · have hf := (if_neg c22).symm.trans hf
                    exact g.tr (L220 _ _ _ _ hf)
          have L142 : ∀ (τ : Tau) (x_2 : Int32) (x_3 : Int32) (z_0 : Int32), fX7_shows_142 p1 (fX7_shows_90 p1 n90) (fX7_shows_98 p1 (fX7_shows_90 p1 n90) n98) τ x_2 x_3 z_0 = some R → Fr [(0, 25), (0, 26), (0, 27), (0, 28)] [11] τ R := by
            intro τ x_2 x_3 z_0 hf
            unfold fX7_shows_142 at hf
            have g : Fr [(0, 25), (0, 26), (0, 27), (0, 28)] [11] τ τ := Fr.rf
            exact g.tr (L150 FU _ _ _ _ _ _ hf)
          have L141 : ∀ (τ : Tau) (x_2 : Int32) (x_3 : Int32), fX7_shows_141 p1 (fX7_shows_90 p1 n90) (fX7_shows_98 p1 (fX7_shows_90 p1 n90) n98) τ x_2 x_3 = some R → Fr [(0, 25), (0, 26), (0, 27), (0, 28)] [11] τ R := by
            intro τ x_2 x_3 hf
            unfold fX7_shows_141 at hf
            have g : Fr [(0, 25), (0, 26), (0, 27), (0, 28)] [11] τ τ := Fr.rf
            exact g.tr (L142 _ _ _ _ hf)
          intro τ x_2 x_3 hf
          rw [fX7_shows_98] at hf
          have g : Fr [(0, 25), (0, 26), (0, 27), (0, 28)] [11] τ τ := Fr.rf
          by_cases c14 : (64 : Int32) ≤ x_3
          · have hf := (if_pos c14).symm.trans hf
            by_cases c15 : x_2 = 0
            · have hf := (if_pos c15).symm.trans hf
              exact g.tr (L259 _ _ _ _ hf)
            · have hf := (if_neg c15).symm.trans hf
              exact g.tr (L259 _ _ _ _ hf)
          · have hf := (if_neg c14).symm.trans hf
            by_cases c16 : tI τ 0 1 ≤ ((x_3 / (4 : Int32)) - (x_3 / (4 : Int32)) / (4 : Int32) * (4 : Int32))
            · have hf := (if_pos c16).symm.trans hf
              exact g.tr (L141 _ _ _ hf)
            · have hf := (if_neg c16).symm.trans hf
              by_cases c17 : tI τ 0 1 ≤ (x_3 - x_3 / (4 : Int32) * (4 : Int32))
              · have hf := (if_pos c17).symm.trans hf
                exact g.tr (L141 _ _ _ hf)
              · have hf := (if_neg c17).symm.trans hf
                obtain ⟨b18, hf⟩ := ks_ok hf
                by_cases c19 : tA τ 11 x_3.toNatClampNeg = (-9 : Int32)
                · have hf := (if_pos c19).symm.trans hf
                  exact g.tr (L142 _ _ _ _ hf)
                · have hf := (if_neg c19).symm.trans hf
                  exact g.tr (L141 _ _ _ hf)
      intro τ x_2 hf
      rw [fX7_shows_90] at hf
      have g : Fr [(0, 25), (0, 26), (0, 27), (0, 28)] [11] τ τ := Fr.rf
      by_cases c13 : x_2 = 0
      · have hf := (if_pos c13).symm.trans hf
        replace hf := Option.some.inj hf
        subst hf
        exact g
      · have hf := (if_neg c13).symm.trans hf
        exact g.tr (L98 FU _ _ _ hf)
  have L2 : ∀ (n2 : Nat) (τ : Tau) (x_2 : Int32), fX7_shows_2 p1 n2 τ x_2 = some R → Fr [(0, 25), (0, 26), (0, 27), (0, 28)] [11] τ R := by
    intro n2
    induction n2 with
    | zero => intro τ x_2 hf; exact absurd hf (by rw [fX7_shows_2]; simp)
    | succ n2 ih2 =>
      have L76 : ∀ (τ : Tau) (x_2 : Int32) (z_0 : Int32) (z_1 : Int32), fX7_shows_76 p1 (fX7_shows_2 p1 n2) τ x_2 z_0 z_1 = some R → Fr [(0, 25), (0, 26), (0, 27), (0, 28)] [11] τ R := by
        intro τ x_2 z_0 z_1 hf
        unfold fX7_shows_76 at hf
        have g : Fr [(0, 25), (0, 26), (0, 27), (0, 28)] [11] τ τ := Fr.rf
        obtain ⟨b10, hf⟩ := ks_ok hf
        obtain ⟨t11, et11, hf⟩ := ks_nm hf
        have g := g.tr (show Fr _ _ _ t11 by rw [et11]; exact Fr.sA (by decide))
        obtain ⟨x12, ex12, hf⟩ := ks_nm hf
        exact g.tr (ih2 _ _ hf)
      have L70 : ∀ (τ : Tau) (x_2 : Int32) (z_0 : Int32), fX7_shows_70 p1 (fX7_shows_2 p1 n2) τ x_2 z_0 = some R → Fr [(0, 25), (0, 26), (0, 27), (0, 28)] [11] τ R := by
        intro τ x_2 z_0 hf
        unfold fX7_shows_70 at hf
        have g : Fr [(0, 25), (0, 26), (0, 27), (0, 28)] [11] τ τ := Fr.rf
        exact g.tr (L76 _ _ _ _ hf)
      have L51 : ∀ (τ : Tau) (x_2 : Int32) (z_0 : Int32), fX7_shows_51 p1 (fX7_shows_2 p1 n2) τ x_2 z_0 = some R → Fr [(0, 25), (0, 26), (0, 27), (0, 28)] [11] τ R := by
        intro τ x_2 z_0 hf
        unfold fX7_shows_51 at hf
        have g : Fr [(0, 25), (0, 26), (0, 27), (0, 28)] [11] τ τ := Fr.rf
        by_cases c7 : z_0 = 0
        · have hf := (if_pos c7).symm.trans hf
          obtain ⟨r8, er8, hf⟩ := ks_bind hf
          by_cases c9 : bI r8 = 0
          · have hf := (if_pos c9).symm.trans hf
            exact g.tr (L76 _ _ _ _ hf)
          · have hf := (if_neg c9).symm.trans hf
            exact g.tr (L70 _ _ _ hf)
        · have hf := (if_neg c7).symm.trans hf
          exact g.tr (L70 _ _ _ hf)
      have L50 : ∀ (τ : Tau) (x_2 : Int32), fX7_shows_50 p1 (fX7_shows_2 p1 n2) τ x_2 = some R → Fr [(0, 25), (0, 26), (0, 27), (0, 28)] [11] τ R := by
        intro τ x_2 hf
        unfold fX7_shows_50 at hf
        have g : Fr [(0, 25), (0, 26), (0, 27), (0, 28)] [11] τ τ := Fr.rf
        exact g.tr (L51 _ _ _ hf)
      intro τ x_2 hf
      rw [fX7_shows_2] at hf
      have g : Fr [(0, 25), (0, 26), (0, 27), (0, 28)] [11] τ τ := Fr.rf
      by_cases c1 : (64 : Int32) ≤ x_2
      · have hf := (if_pos c1).symm.trans hf
        obtain ⟨t2, et2, hf⟩ := ks_nm hf
        have g := g.tr (show Fr _ _ _ t2 by rw [et2]; exact Fr.sI (by decide))
        exact g.tr (L90 FU _ _ hf)
      · have hf := (if_neg c1).symm.trans hf
        by_cases c3 : (16 : Int32) ≤ x_2
        · have hf := (if_pos c3).symm.trans hf
          exact g.tr (L50 _ _ hf)
        · have hf := (if_neg c3).symm.trans hf
          by_cases c4 : (x_2 / (4 : Int32)) = (x_2 - x_2 / (4 : Int32) * (4 : Int32))
          · have hf := (if_pos c4).symm.trans hf
            by_cases c5 : tI τ 0 1 ≤ (x_2 / (4 : Int32))
            · have hf := (if_pos c5).symm.trans hf
              exact g.tr (L50 _ _ hf)
            · have hf := (if_neg c5).symm.trans hf
              by_cases c6 : ((tI τ 0 3 >>> ((7 : Int32) &&& 31)) &&& (1 : Int32)) = (1 : Int32)
              · have hf := (if_pos c6).symm.trans hf
                exact g.tr (L51 _ _ _ hf)
              · have hf := (if_neg c6).symm.trans hf
                exact g.tr (L50 _ _ hf)
          · have hf := (if_neg c4).symm.trans hf
            exact g.tr (L50 _ _ hf)
  unfold fX7_shows at hf
  have g : Fr [(0, 25), (0, 26), (0, 27), (0, 28)] [11] τ τ := Fr.rf
  exact g.tr (L2 FU _ _ hf)
set_option maxRecDepth 100000 in
theorem fr_X7_round  (τ : Tau) (p1 : Int32) (p2 : Int32) (p3 : Int32) (p4 : Int32) (R : (Int32 × Tau)) (hf : fX7_round τ p1 p2 p3 p4 = some R) : Fr [(0, 0), (0, 25), (0, 26), (0, 27), (0, 28)] [11] τ R.2 := by
  unfold fX7_round at hf
  have g : Fr [(0, 0), (0, 25), (0, 26), (0, 27), (0, 28)] [11] τ τ := Fr.rf
  obtain ⟨t1, et1, hf⟩ := ks_nm hf
  have g := g.tr (show Fr _ _ _ t1 by rw [et1]; exact Fr.sI (by decide))
  obtain ⟨r2, er2, hf⟩ := ks_nm hf
  by_cases c3 : bI r2 = 0
  · have hf := (if_pos c3).symm.trans hf
    replace hf := Option.some.inj hf
    subst hf
    exact g
  · have hf := (if_neg c3).symm.trans hf
    obtain ⟨r4, er4, hf⟩ := ks_bind hf
    have g := g.tr ((fr_X7_shows _ _ _ er4).wk (by decide) (by decide))
    obtain ⟨b5, hf⟩ := ks_ok hf
    replace hf := Option.some.inj hf
    subst hf
    exact g
set_option maxRecDepth 100000 in
theorem fr_X7_by  (τ : Tau) (p1 : Int32) (p2 : Int32) (p3 : Int32) (p4 : Int32) (p5 : Int32) (R : (Int32 × Tau)) (hf : fX7_by τ p1 p2 p3 p4 p5 = some R) : Fr [(0, 0), (0, 25), (0, 26), (0, 27), (0, 28)] [11] τ R.2 := by
  have L97 : ∀ (n97 : Nat) (τ : Tau) (x_7 : Int32) (x_8 : Int32), fX7_by_97 p1 p2 p3 p4 p5 n97 τ x_7 x_8 = some R → Fr [(0, 0), (0, 25), (0, 26), (0, 27), (0, 28)] [11] τ R.2 := by
    intro n97
    induction n97 with
    | zero => intro τ x_7 x_8 hf; exact absurd hf (by rw [fX7_by_97]; simp)
    | succ n97 ih97 =>
      have L162 : ∀ (τ : Tau) (x_7 : Int32) (x_8 : Int32), fX7_by_162 p1 p2 p3 p4 p5 (fX7_by_97 p1 p2 p3 p4 p5 n97) τ x_7 x_8 = some R → Fr [(0, 0), (0, 25), (0, 26), (0, 27), (0, 28)] [11] τ R.2 := by
        intro τ x_7 x_8 hf
        unfold fX7_by_162 at hf
        have g : Fr [(0, 0), (0, 25), (0, 26), (0, 27), (0, 28)] [11] τ τ := Fr.rf
        obtain ⟨x21, ex21, hf⟩ := ks_nm hf
        exact g.tr (ih97 _ _ _ hf)
      intro τ x_7 x_8 hf
      rw [fX7_by_97] at hf
      have g : Fr [(0, 0), (0, 25), (0, 26), (0, 27), (0, 28)] [11] τ τ := Fr.rf
      by_cases c15 : (9 : Int32) ≤ x_8
      · have hf := (if_pos c15).symm.trans hf
        replace hf := Option.some.inj hf
        subst hf
        exact g
      · have hf := (if_neg c15).symm.trans hf
        by_cases c16 : ((tI τ 0 3 >>> (x_8 &&& 31)) &&& (1 : Int32)) = (1 : Int32)
        · have hf := (if_pos c16).symm.trans hf
          obtain ⟨r17, er17, hf⟩ := ks_bind hf
          have g := g.tr ((fr_X7_isShown _ _ _ _ _ _ _ er17).wk (by decide) (by decide))
          by_cases c18 : bI r17.1 = 0
          · have hf := (if_pos c18).symm.trans hf
            exact g.tr (L162 _ _ _ hf)
          · have hf := (if_neg c18).symm.trans hf
            by_cases c19 : p5 = 0
            · have hf := (if_pos c19).symm.trans hf
              replace hf := Option.some.inj hf
              subst hf
              exact g
            · have hf := (if_neg c19).symm.trans hf
              by_cases c20 : p5 = (1 : Int32)
              · have hf := (if_pos c20).symm.trans hf
                replace hf := Option.some.inj hf
                subst hf
                exact g
              · have hf := (if_neg c20).symm.trans hf
                replace hf := Option.some.inj hf
                subst hf
                exact g
        · have hf := (if_neg c16).symm.trans hf
          exact g.tr (L162 _ _ _ hf)
  unfold fX7_by at hf
  have g : Fr [(0, 0), (0, 25), (0, 26), (0, 27), (0, 28)] [11] τ τ := Fr.rf
  obtain ⟨t1, et1, hf⟩ := ks_nm hf
  have g := g.tr (show Fr _ _ _ t1 by rw [et1]; exact Fr.sI (by decide))
  obtain ⟨r2, er2, hf⟩ := ks_nm hf
  by_cases c3 : bI r2 = 0
  · have hf := (if_pos c3).symm.trans hf
    replace hf := Option.some.inj hf
    subst hf
    exact g
  · have hf := (if_neg c3).symm.trans hf
    obtain ⟨r4, er4, hf⟩ := ks_nm hf
    by_cases c5 : bI r4 = 0
    · have hf := (if_pos c5).symm.trans hf
      replace hf := Option.some.inj hf
      subst hf
      exact g
    · have hf := (if_neg c5).symm.trans hf
      obtain ⟨r6, er6, hf⟩ := ks_bind hf
      have g := g.tr ((fr_X7_shows _ _ _ er6).wk (by decide) (by decide))
      obtain ⟨x7, ex7, hf⟩ := ks_nm hf
      obtain ⟨b8, hf⟩ := ks_ok hf
      obtain ⟨x9, ex9, hf⟩ := ks_nm hf
      by_cases c10 : x9 = (-9 : Int32)
      · have hf := (if_pos c10).symm.trans hf
        replace hf := Option.some.inj hf
        subst hf
        exact g
      · have hf := (if_neg c10).symm.trans hf
        obtain ⟨r11, er11, hf⟩ := ks_bind hf
        by_cases c12 : bI r11 = 0
        · have hf := (if_pos c12).symm.trans hf
          by_cases c13 : x9 = 0
          · have hf := (if_pos c13).symm.trans hf
            by_cases c14 : p5 = 0
            · have hf := (if_pos c14).symm.trans hf
              replace hf := Option.some.inj hf
              subst hf
              exact g
            · have hf := (if_neg c14).symm.trans hf
              replace hf := Option.some.inj hf
              subst hf
              exact g
          · have hf := (if_neg c13).symm.trans hf
            exact g.tr (L97 FU _ _ _ hf)
        · have hf := (if_neg c12).symm.trans hf
          replace hf := Option.some.inj hf
          subst hf
          exact g
set_option maxRecDepth 100000 in
theorem fr_X7_shown  (τ : Tau) (p1 : Int32) (p2 : Int32) (R : (Int32 × Tau)) (hf : fX7_shown τ p1 p2 = some R) : Fr [(0, 0), (0, 17), (0, 18), (0, 25), (0, 26), (0, 27), (0, 28)] [6, 7, 8, 9, 10, 11] τ R.2 := by
  have L236 : ∀ (n236 : Nat) (τ : Tau) (x_3 : Int32) (x_4 : Int64) (x_6 : Int32), fX7_shown_236 p1 p2 n236 τ x_3 x_4 x_6 = some R → Fr [(0, 0), (0, 17), (0, 18), (0, 25), (0, 26), (0, 27), (0, 28)] [6, 7, 8, 9, 10, 11] τ R.2 := by
    intro n236
    induction n236 with
    | zero => intro τ x_3 x_4 x_6 hf; exact absurd hf (by rw [fX7_shown_236]; simp)
    | succ n236 ih236 =>
      have L297 : ∀ (τ : Tau) (x_4 : Int64) (x_6 : Int32) (z_0 : Int32) (z_1 : Int32), fX7_shown_297 p1 p2 (fX7_shown_236 p1 p2 n236) τ x_4 x_6 z_0 z_1 = some R → Fr [(0, 0), (0, 17), (0, 18), (0, 25), (0, 26), (0, 27), (0, 28)] [6, 7, 8, 9, 10, 11] τ R.2 := by
        intro τ x_4 x_6 z_0 z_1 hf
        unfold fX7_shown_297 at hf
        have g : Fr [(0, 0), (0, 17), (0, 18), (0, 25), (0, 26), (0, 27), (0, 28)] [6, 7, 8, 9, 10, 11] τ τ := Fr.rf
        obtain ⟨x41, ex41, hf⟩ := ks_nm hf
        obtain ⟨x42, ex42, hf⟩ := ks_nm hf
        exact g.tr (ih236 _ _ _ _ hf)
      have L296 : ∀ (τ : Tau) (x_4 : Int64) (x_6 : Int32) (z_0 : Int32), fX7_shown_296 p1 p2 (fX7_shown_236 p1 p2 n236) τ x_4 x_6 z_0 = some R → Fr [(0, 0), (0, 17), (0, 18), (0, 25), (0, 26), (0, 27), (0, 28)] [6, 7, 8, 9, 10, 11] τ R.2 := by
        intro τ x_4 x_6 z_0 hf
        unfold fX7_shown_296 at hf
        have g : Fr [(0, 0), (0, 17), (0, 18), (0, 25), (0, 26), (0, 27), (0, 28)] [6, 7, 8, 9, 10, 11] τ τ := Fr.rf
        exact g.tr (L297 _ _ _ _ _ hf)
      intro τ x_3 x_4 x_6 hf
      rw [fX7_shown_236] at hf
      have g : Fr [(0, 0), (0, 17), (0, 18), (0, 25), (0, 26), (0, 27), (0, 28)] [6, 7, 8, 9, 10, 11] τ τ := Fr.rf
      by_cases c35 : (64 : Int32) ≤ x_6
      · have hf := (if_pos c35).symm.trans hf
        replace hf := Option.some.inj hf
        subst hf
        exact g
      · have hf := (if_neg c35).symm.trans hf
        by_cases c36 : tI τ 0 1 ≤ ((x_6 / (4 : Int32)) - (x_6 / (4 : Int32)) / (4 : Int32) * (4 : Int32))
        · have hf := (if_pos c36).symm.trans hf
          exact g.tr (L296 _ _ _ _ hf)
        · have hf := (if_neg c36).symm.trans hf
          by_cases c37 : tI τ 0 1 ≤ (x_6 - x_6 / (4 : Int32) * (4 : Int32))
          · have hf := (if_pos c37).symm.trans hf
            exact g.tr (L296 _ _ _ _ hf)
          · have hf := (if_neg c37).symm.trans hf
            by_cases c38 : lg_cmp ((x_4 >>> (x_6.toInt64 &&& 63)) &&& (1 : Int64)) (1 : Int64) = 0
            · have hf := (if_pos c38).symm.trans hf
              obtain ⟨b39, hf⟩ := ks_ok hf
              by_cases c40 : tA τ 11 x_6.toNatClampNeg = (-9 : Int32)
              · have hf := (if_pos c40).symm.trans hf
                exact g.tr (L297 _ _ _ _ _ hf)
              · have hf := (if_neg c40).symm.trans hf
                exact g.tr (L296 _ _ _ _ hf)
            · have hf := (if_neg c38).symm.trans hf
              exact g.tr (L296 _ _ _ _ hf)
  have L182 : ∀ (n182 : Nat) (τ : Tau) (x_3 : Int32) (x_4 : Int64) (x_6 : Int32), fX7_shown_182 p1 p2 n182 τ x_3 x_4 x_6 = some R → Fr [(0, 0), (0, 17), (0, 18), (0, 25), (0, 26), (0, 27), (0, 28)] [6, 7, 8, 9, 10, 11] τ R.2 := by
    intro n182
    induction n182 with
    | zero => intro τ x_3 x_4 x_6 hf; exact absurd hf (by rw [fX7_shown_182]; simp)
    | succ n182 ih182 =>
      have L224 : ∀ (τ : Tau) (x_3 : Int32) (x_6 : Int32) (z_0 : Int64) (z_1 : Int64), fX7_shown_224 p1 p2 (fX7_shown_182 p1 p2 n182) τ x_3 x_6 z_0 z_1 = some R → Fr [(0, 0), (0, 17), (0, 18), (0, 25), (0, 26), (0, 27), (0, 28)] [6, 7, 8, 9, 10, 11] τ R.2 := by
        intro τ x_3 x_6 z_0 z_1 hf
        unfold fX7_shown_224 at hf
        have g : Fr [(0, 0), (0, 17), (0, 18), (0, 25), (0, 26), (0, 27), (0, 28)] [6, 7, 8, 9, 10, 11] τ τ := Fr.rf
        obtain ⟨x33, ex33, hf⟩ := ks_nm hf
        obtain ⟨x34, ex34, hf⟩ := ks_nm hf
        exact g.tr (ih182 _ _ _ _ hf)
      have L221 : ∀ (τ : Tau) (x_3 : Int32) (x_6 : Int32) (z_0 : Int64), fX7_shown_221 p1 p2 (fX7_shown_182 p1 p2 n182) τ x_3 x_6 z_0 = some R → Fr [(0, 0), (0, 17), (0, 18), (0, 25), (0, 26), (0, 27), (0, 28)] [6, 7, 8, 9, 10, 11] τ R.2 := by
        intro τ x_3 x_6 z_0 hf
        unfold fX7_shown_221 at hf
        have g : Fr [(0, 0), (0, 17), (0, 18), (0, 25), (0, 26), (0, 27), (0, 28)] [6, 7, 8, 9, 10, 11] τ τ := Fr.rf
        exact g.tr (L224 _ _ _ _ _ hf)
      intro τ x_3 x_4 x_6 hf
      rw [fX7_shown_182] at hf
      have g : Fr [(0, 0), (0, 17), (0, 18), (0, 25), (0, 26), (0, 27), (0, 28)] [6, 7, 8, 9, 10, 11] τ τ := Fr.rf
      by_cases c27 : (1024 : Int32) ≤ x_6
      · have hf := (if_pos c27).symm.trans hf
        exact g.tr (L236 FU _ _ _ _ hf)
      · have hf := (if_neg c27).symm.trans hf
        obtain ⟨b28, hf⟩ := ks_ok hf
        by_cases c29 : tA τ 7 x_6.toNatClampNeg ≤ 0
        · have hf := (if_pos c29).symm.trans hf
          exact g.tr (L221 _ _ _ _ hf)
        · have hf := (if_neg c29).symm.trans hf
          obtain ⟨r30, er30, hf⟩ := ks_nm hf
          by_cases c31 : bI r30 = 0
          · have hf := (if_pos c31).symm.trans hf
            exact g.tr (L221 _ _ _ _ hf)
          · have hf := (if_neg c31).symm.trans hf
            obtain ⟨b32, hf⟩ := ks_ok hf
            exact g.tr (L224 _ _ _ _ _ hf)
  have L135 : ∀ (n135 : Nat) (τ : Tau) (x_3 : Int32) (x_4 : Int32), fX7_shown_135 p1 p2 n135 τ x_3 x_4 = some R → Fr [(0, 0), (0, 17), (0, 18), (0, 25), (0, 26), (0, 27), (0, 28)] [6, 7, 8, 9, 10, 11] τ R.2 := by
    intro n135
    induction n135 with
    | zero => intro τ x_3 x_4 hf; exact absurd hf (by rw [fX7_shown_135]; simp)
    | succ n135 ih135 =>
      have L160 : ∀ (τ : Tau) (x_4 : Int32) (z_0 : Int32) (z_1 : Int32), fX7_shown_160 p1 p2 (fX7_shown_135 p1 p2 n135) τ x_4 z_0 z_1 = some R → Fr [(0, 0), (0, 17), (0, 18), (0, 25), (0, 26), (0, 27), (0, 28)] [6, 7, 8, 9, 10, 11] τ R.2 := by
        intro τ x_4 z_0 z_1 hf
        unfold fX7_shown_160 at hf
        have g : Fr [(0, 0), (0, 17), (0, 18), (0, 25), (0, 26), (0, 27), (0, 28)] [6, 7, 8, 9, 10, 11] τ τ := Fr.rf
        obtain ⟨x25, ex25, hf⟩ := ks_nm hf
        obtain ⟨x26, ex26, hf⟩ := ks_nm hf
        exact g.tr (ih135 _ _ _ hf)
      intro τ x_3 x_4 hf
      rw [fX7_shown_135] at hf
      have g : Fr [(0, 0), (0, 17), (0, 18), (0, 25), (0, 26), (0, 27), (0, 28)] [6, 7, 8, 9, 10, 11] τ τ := Fr.rf
      by_cases c22 : (64 : Int32) ≤ x_4
      · have hf := (if_pos c22).symm.trans hf
        replace hf := Option.some.inj hf
        subst hf
        exact g
      · have hf := (if_neg c22).symm.trans hf
        obtain ⟨b23, hf⟩ := ks_ok hf
        by_cases c24 : tA τ 11 x_4.toNatClampNeg = (-9 : Int32)
        · have hf := (if_pos c24).symm.trans hf
          exact g.tr (L160 _ _ _ _ hf)
        · have hf := (if_neg c24).symm.trans hf
          exact g.tr (L160 _ _ _ _ hf)
  have L48 : ∀ (n48 : Nat) (τ : Tau) (x_3 : Int32) (x_4 : Int32), fX7_shown_48 p1 p2 n48 τ x_3 x_4 = some R → Fr [(0, 0), (0, 17), (0, 18), (0, 25), (0, 26), (0, 27), (0, 28)] [6, 7, 8, 9, 10, 11] τ R.2 := by
    intro n48
    induction n48 with
    | zero => intro τ x_3 x_4 hf; exact absurd hf (by rw [fX7_shown_48]; simp)
    | succ n48 ih48 =>
      have L118 : ∀ (τ : Tau) (x_4 : Int32) (z_0 : Int32) (z_1 : Int32), fX7_shown_118 p1 p2 (fX7_shown_48 p1 p2 n48) τ x_4 z_0 z_1 = some R → Fr [(0, 0), (0, 17), (0, 18), (0, 25), (0, 26), (0, 27), (0, 28)] [6, 7, 8, 9, 10, 11] τ R.2 := by
        intro τ x_4 z_0 z_1 hf
        unfold fX7_shown_118 at hf
        have g : Fr [(0, 0), (0, 17), (0, 18), (0, 25), (0, 26), (0, 27), (0, 28)] [6, 7, 8, 9, 10, 11] τ τ := Fr.rf
        obtain ⟨x16, ex16, hf⟩ := ks_nm hf
        obtain ⟨x17, ex17, hf⟩ := ks_nm hf
        exact g.tr (ih48 _ _ _ hf)
      have L117 : ∀ (τ : Tau) (x_4 : Int32) (z_0 : Int32), fX7_shown_117 p1 p2 (fX7_shown_48 p1 p2 n48) τ x_4 z_0 = some R → Fr [(0, 0), (0, 17), (0, 18), (0, 25), (0, 26), (0, 27), (0, 28)] [6, 7, 8, 9, 10, 11] τ R.2 := by
        intro τ x_4 z_0 hf
        unfold fX7_shown_117 at hf
        have g : Fr [(0, 0), (0, 17), (0, 18), (0, 25), (0, 26), (0, 27), (0, 28)] [6, 7, 8, 9, 10, 11] τ τ := Fr.rf
        exact g.tr (L118 _ _ _ _ hf)
      have L113 : ∀ (τ : Tau) (x_4 : Int32) (z_0 : Int32), fX7_shown_113 p1 p2 (fX7_shown_48 p1 p2 n48) τ x_4 z_0 = some R → Fr [(0, 0), (0, 17), (0, 18), (0, 25), (0, 26), (0, 27), (0, 28)] [6, 7, 8, 9, 10, 11] τ R.2 := by
        intro τ x_4 z_0 hf
        unfold fX7_shown_113 at hf
        have g : Fr [(0, 0), (0, 17), (0, 18), (0, 25), (0, 26), (0, 27), (0, 28)] [6, 7, 8, 9, 10, 11] τ τ := Fr.rf
        exact g.tr (L118 _ _ _ _ hf)
      have L83 : ∀ (τ : Tau) (x_4 : Int32) (z_0 : Int32), fX7_shown_83 p1 p2 (fX7_shown_48 p1 p2 n48) τ x_4 z_0 = some R → Fr [(0, 0), (0, 17), (0, 18), (0, 25), (0, 26), (0, 27), (0, 28)] [6, 7, 8, 9, 10, 11] τ R.2 := by
        intro τ x_4 z_0 hf
        unfold fX7_shown_83 at hf
        have g : Fr [(0, 0), (0, 17), (0, 18), (0, 25), (0, 26), (0, 27), (0, 28)] [6, 7, 8, 9, 10, 11] τ τ := Fr.rf
        obtain ⟨b18, hf⟩ := ks_ok hf
        by_cases c19 : tA τ 11 ((16 : Int32) + x_4).toNatClampNeg = (-9 : Int32)
        · have hf := (if_pos c19).symm.trans hf
          exact g.tr (L117 _ _ _ hf)
        · have hf := (if_neg c19).symm.trans hf
          obtain ⟨b20, hf⟩ := ks_ok hf
          by_cases c21 : tA τ 11 ((32 : Int32) + x_4).toNatClampNeg = (-9 : Int32)
          · have hf := (if_pos c21).symm.trans hf
            exact g.tr (L117 _ _ _ hf)
          · have hf := (if_neg c21).symm.trans hf
            exact g.tr (L113 _ _ _ hf)
      intro τ x_3 x_4 hf
      rw [fX7_shown_48] at hf
      have g : Fr [(0, 0), (0, 17), (0, 18), (0, 25), (0, 26), (0, 27), (0, 28)] [6, 7, 8, 9, 10, 11] τ τ := Fr.rf
      by_cases c11 : (16 : Int32) ≤ x_4
      · have hf := (if_pos c11).symm.trans hf
        replace hf := Option.some.inj hf
        subst hf
        exact g
      · have hf := (if_neg c11).symm.trans hf
        obtain ⟨b12, hf⟩ := ks_ok hf
        by_cases c13 : tA τ 11 x_4.toNatClampNeg = (-9 : Int32)
        · have hf := (if_pos c13).symm.trans hf
          exact g.tr (L83 _ _ _ hf)
        · have hf := (if_neg c13).symm.trans hf
          obtain ⟨b14, hf⟩ := ks_ok hf
          by_cases c15 : tA τ 11 ((48 : Int32) + x_4).toNatClampNeg = (-9 : Int32)
          · have hf := (if_pos c15).symm.trans hf
            exact g.tr (L83 _ _ _ hf)
          · have hf := (if_neg c15).symm.trans hf
            exact g.tr (L113 _ _ _ hf)
  unfold fX7_shown at hf
  have g : Fr [(0, 0), (0, 17), (0, 18), (0, 25), (0, 26), (0, 27), (0, 28)] [6, 7, 8, 9, 10, 11] τ τ := Fr.rf
  obtain ⟨t1, et1, hf⟩ := ks_nm hf
  have g := g.tr (show Fr _ _ _ t1 by rw [et1]; exact Fr.sI (by decide))
  obtain ⟨r2, er2, hf⟩ := ks_nm hf
  by_cases c3 : bI r2 = 0
  · have hf := (if_pos c3).symm.trans hf
    replace hf := Option.some.inj hf
    subst hf
    exact g
  · have hf := (if_neg c3).symm.trans hf
    obtain ⟨r4, er4, hf⟩ := ks_nm hf
    by_cases c5 : bI r4 = 0
    · have hf := (if_pos c5).symm.trans hf
      replace hf := Option.some.inj hf
      subst hf
      exact g
    · have hf := (if_neg c5).symm.trans hf
      obtain ⟨r6, er6, hf⟩ := ks_bind hf
      have g := g.tr ((fr_X7_shows _ _ _ er6).wk (by decide) (by decide))
      by_cases c7 : p2 = (1 : Int32)
      · have hf := (if_pos c7).symm.trans hf
        replace hf := Option.some.inj hf
        subst hf
        exact g
      · have hf := (if_neg c7).symm.trans hf
        by_cases c8 : p2 = (2 : Int32)
        · have hf := (if_pos c8).symm.trans hf
          exact g.tr (L48 FU _ _ _ hf)
        · have hf := (if_neg c8).symm.trans hf
          by_cases c9 : p2 = 0
          · have hf := (if_pos c9).symm.trans hf
            exact g.tr (L135 FU _ _ _ hf)
          · have hf := (if_neg c9).symm.trans hf
            obtain ⟨r10, er10, hf⟩ := ks_bind hf
            have g := g.tr ((fr_X7_loads _ _ er10).wk (by decide) (by decide))
            exact g.tr (L182 FU _ _ _ _ hf)
set_option maxRecDepth 100000 in
theorem fr_X7_count  (τ : Tau) (p1 : Int32) (R : (Int32 × Tau)) (hf : fX7_count τ p1 = some R) : Fr [(0, 0)] [] τ R.2 := by
  have L9 : ∀ (n9 : Nat) (τ : Tau) (x_2 : Int32) (x_3 : Int32), fX7_count_9 p1 n9 τ x_2 x_3 = some R → Fr [(0, 0)] [] τ R.2 := by
    intro n9
    induction n9 with
    | zero => intro τ x_2 x_3 hf; exact absurd hf (by rw [fX7_count_9]; simp)
    | succ n9 ih9 =>
      have L39 : ∀ (τ : Tau) (x_3 : Int32) (z_0 : Int32) (z_1 : Int32), fX7_count_39 p1 (fX7_count_9 p1 n9) τ x_3 z_0 z_1 = some R → Fr [(0, 0)] [] τ R.2 := by
        intro τ x_3 z_0 z_1 hf
        unfold fX7_count_39 at hf
        have g : Fr [(0, 0)] [] τ τ := Fr.rf
        obtain ⟨x11, ex11, hf⟩ := ks_nm hf
        obtain ⟨x12, ex12, hf⟩ := ks_nm hf
        exact g.tr (ih9 _ _ _ hf)
      intro τ x_2 x_3 hf
      rw [fX7_count_9] at hf
      have g : Fr [(0, 0)] [] τ τ := Fr.rf
      by_cases c2 : (10 : Int32) ≤ x_3
      · have hf := (if_pos c2).symm.trans hf
        by_cases c3 : p1 = 0
        · have hf := (if_pos c3).symm.trans hf
          replace hf := Option.some.inj hf
          subst hf
          exact g
        · have hf := (if_neg c3).symm.trans hf
          by_cases c4 : p1 = (1 : Int32)
          · have hf := (if_pos c4).symm.trans hf
            replace hf := Option.some.inj hf
            subst hf
            exact g
          · have hf := (if_neg c4).symm.trans hf
            by_cases c5 : p1 = (2 : Int32)
            · have hf := (if_pos c5).symm.trans hf
              obtain ⟨r8, er8, hf⟩ := ks_bind hf
              replace hf := Option.some.inj hf
              subst hf
              exact g
            · have hf := (if_neg c5).symm.trans hf
              by_cases c6 : p1 = (3 : Int32)
              · have hf := (if_pos c6).symm.trans hf
                replace hf := Option.some.inj hf
                subst hf
                exact g
              · have hf := (if_neg c6).symm.trans hf
                by_cases c7 : p1 = (4 : Int32)
                · have hf := (if_pos c7).symm.trans hf
                  replace hf := Option.some.inj hf
                  subst hf
                  exact g
                · have hf := (if_neg c7).symm.trans hf
                  replace hf := Option.some.inj hf
                  subst hf
                  exact g
      · have hf := (if_neg c2).symm.trans hf
        obtain ⟨b9, hf⟩ := ks_ok hf
        by_cases c10 : tA τ 3 (((6 : Int32) * x_3) + (5 : Int32)).toNatClampNeg = (-9 : Int32)
        · have hf := (if_pos c10).symm.trans hf
          exact g.tr (L39 _ _ _ _ hf)
        · have hf := (if_neg c10).symm.trans hf
          exact g.tr (L39 _ _ _ _ hf)
  unfold fX7_count at hf
  have g : Fr [(0, 0)] [] τ τ := Fr.rf
  obtain ⟨t1, et1, hf⟩ := ks_nm hf
  have g := g.tr (show Fr _ _ _ t1 by rw [et1]; exact Fr.sI (by decide))
  exact g.tr (L9 FU _ _ _ hf)
