/-! PURE PART: the functions of parts 10 alone. Numbers are written nI k (k a Nat). -/
/-- keeps a row from being taken as one by definition (the deciders inside an if would stay behind) -/
theorem nrfl {α : Sort _} {a b : α} (h : a = b) : a = b := h
theorem li_0 : (0 : Int32) = nI 0 := nrfl rfl
theorem li_1 : (1 : Int32) = nI 1 := nrfl rfl
theorem li_2 : (2 : Int32) = nI 2 := nrfl rfl
theorem li_3 : (3 : Int32) = nI 3 := nrfl rfl
theorem li_4 : (4 : Int32) = nI 4 := nrfl rfl
theorem li_5 : (5 : Int32) = nI 5 := nrfl rfl
theorem li_6 : (6 : Int32) = nI 6 := nrfl rfl
theorem li_7 : (7 : Int32) = nI 7 := nrfl rfl
theorem li_8 : (8 : Int32) = nI 8 := nrfl rfl
theorem li_9 : (9 : Int32) = nI 9 := nrfl rfl
theorem li_10 : (10 : Int32) = nI 10 := nrfl rfl
theorem li_11 : (11 : Int32) = nI 11 := nrfl rfl
theorem li_12 : (12 : Int32) = nI 12 := nrfl rfl
theorem li_13 : (13 : Int32) = nI 13 := nrfl rfl
theorem li_14 : (14 : Int32) = nI 14 := nrfl rfl
theorem li_15 : (15 : Int32) = nI 15 := nrfl rfl
theorem li_16 : (16 : Int32) = nI 16 := nrfl rfl
theorem li_17 : (17 : Int32) = nI 17 := nrfl rfl
theorem li_18 : (18 : Int32) = nI 18 := nrfl rfl
theorem li_19 : (19 : Int32) = nI 19 := nrfl rfl
theorem li_20 : (20 : Int32) = nI 20 := nrfl rfl
theorem li_21 : (21 : Int32) = nI 21 := nrfl rfl
theorem li_22 : (22 : Int32) = nI 22 := nrfl rfl
theorem li_23 : (23 : Int32) = nI 23 := nrfl rfl
theorem li_24 : (24 : Int32) = nI 24 := nrfl rfl
theorem li_25 : (25 : Int32) = nI 25 := nrfl rfl
theorem li_26 : (26 : Int32) = nI 26 := nrfl rfl
theorem li_27 : (27 : Int32) = nI 27 := nrfl rfl
theorem li_28 : (28 : Int32) = nI 28 := nrfl rfl
theorem li_29 : (29 : Int32) = nI 29 := nrfl rfl
theorem li_30 : (30 : Int32) = nI 30 := nrfl rfl
theorem li_31 : (31 : Int32) = nI 31 := nrfl rfl
theorem li_32 : (32 : Int32) = nI 32 := nrfl rfl
theorem li_33 : (33 : Int32) = nI 33 := nrfl rfl
theorem li_34 : (34 : Int32) = nI 34 := nrfl rfl
theorem li_35 : (35 : Int32) = nI 35 := nrfl rfl
theorem li_36 : (36 : Int32) = nI 36 := nrfl rfl
theorem li_37 : (37 : Int32) = nI 37 := nrfl rfl
theorem li_38 : (38 : Int32) = nI 38 := nrfl rfl
theorem li_39 : (39 : Int32) = nI 39 := nrfl rfl
theorem li_40 : (40 : Int32) = nI 40 := nrfl rfl
theorem li_41 : (41 : Int32) = nI 41 := nrfl rfl
theorem li_42 : (42 : Int32) = nI 42 := nrfl rfl
theorem li_43 : (43 : Int32) = nI 43 := nrfl rfl
theorem li_44 : (44 : Int32) = nI 44 := nrfl rfl
theorem li_45 : (45 : Int32) = nI 45 := nrfl rfl
theorem li_46 : (46 : Int32) = nI 46 := nrfl rfl
theorem li_47 : (47 : Int32) = nI 47 := nrfl rfl
theorem li_48 : (48 : Int32) = nI 48 := nrfl rfl
theorem li_49 : (49 : Int32) = nI 49 := nrfl rfl
theorem li_50 : (50 : Int32) = nI 50 := nrfl rfl
theorem li_51 : (51 : Int32) = nI 51 := nrfl rfl
theorem li_52 : (52 : Int32) = nI 52 := nrfl rfl
theorem li_53 : (53 : Int32) = nI 53 := nrfl rfl
theorem li_54 : (54 : Int32) = nI 54 := nrfl rfl
theorem li_55 : (55 : Int32) = nI 55 := nrfl rfl
theorem li_56 : (56 : Int32) = nI 56 := nrfl rfl
theorem li_57 : (57 : Int32) = nI 57 := nrfl rfl
theorem li_58 : (58 : Int32) = nI 58 := nrfl rfl
theorem li_59 : (59 : Int32) = nI 59 := nrfl rfl
theorem li_60 : (60 : Int32) = nI 60 := nrfl rfl
theorem li_61 : (61 : Int32) = nI 61 := nrfl rfl
theorem li_62 : (62 : Int32) = nI 62 := nrfl rfl
theorem li_63 : (63 : Int32) = nI 63 := nrfl rfl
theorem li_64 : (64 : Int32) = nI 64 := nrfl rfl
theorem li_65 : (65 : Int32) = nI 65 := nrfl rfl
theorem li_66 : (66 : Int32) = nI 66 := nrfl rfl
theorem li_67 : (67 : Int32) = nI 67 := nrfl rfl
theorem li_68 : (68 : Int32) = nI 68 := nrfl rfl
theorem li_69 : (69 : Int32) = nI 69 := nrfl rfl
theorem li_70 : (70 : Int32) = nI 70 := nrfl rfl
theorem li_71 : (71 : Int32) = nI 71 := nrfl rfl
theorem li_72 : (72 : Int32) = nI 72 := nrfl rfl
theorem li_73 : (73 : Int32) = nI 73 := nrfl rfl
theorem li_74 : (74 : Int32) = nI 74 := nrfl rfl
theorem li_75 : (75 : Int32) = nI 75 := nrfl rfl
theorem li_76 : (76 : Int32) = nI 76 := nrfl rfl
theorem li_77 : (77 : Int32) = nI 77 := nrfl rfl
theorem li_78 : (78 : Int32) = nI 78 := nrfl rfl
theorem li_79 : (79 : Int32) = nI 79 := nrfl rfl
theorem li_80 : (80 : Int32) = nI 80 := nrfl rfl
theorem li_81 : (81 : Int32) = nI 81 := nrfl rfl
theorem li_82 : (82 : Int32) = nI 82 := nrfl rfl
theorem li_83 : (83 : Int32) = nI 83 := nrfl rfl
theorem li_84 : (84 : Int32) = nI 84 := nrfl rfl
theorem li_85 : (85 : Int32) = nI 85 := nrfl rfl
theorem li_86 : (86 : Int32) = nI 86 := nrfl rfl
theorem li_87 : (87 : Int32) = nI 87 := nrfl rfl
theorem li_88 : (88 : Int32) = nI 88 := nrfl rfl
theorem li_89 : (89 : Int32) = nI 89 := nrfl rfl
theorem li_90 : (90 : Int32) = nI 90 := nrfl rfl
theorem li_91 : (91 : Int32) = nI 91 := nrfl rfl
theorem li_92 : (92 : Int32) = nI 92 := nrfl rfl
theorem li_93 : (93 : Int32) = nI 93 := nrfl rfl
theorem li_94 : (94 : Int32) = nI 94 := nrfl rfl
theorem li_95 : (95 : Int32) = nI 95 := nrfl rfl
theorem li_96 : (96 : Int32) = nI 96 := nrfl rfl
theorem li_97 : (97 : Int32) = nI 97 := nrfl rfl
theorem li_98 : (98 : Int32) = nI 98 := nrfl rfl
theorem li_99 : (99 : Int32) = nI 99 := nrfl rfl
theorem li_100 : (100 : Int32) = nI 100 := nrfl rfl
theorem li_101 : (101 : Int32) = nI 101 := nrfl rfl
theorem li_102 : (102 : Int32) = nI 102 := nrfl rfl
theorem li_103 : (103 : Int32) = nI 103 := nrfl rfl
theorem li_104 : (104 : Int32) = nI 104 := nrfl rfl
theorem li_105 : (105 : Int32) = nI 105 := nrfl rfl
theorem li_106 : (106 : Int32) = nI 106 := nrfl rfl
theorem li_107 : (107 : Int32) = nI 107 := nrfl rfl
theorem li_108 : (108 : Int32) = nI 108 := nrfl rfl
theorem li_109 : (109 : Int32) = nI 109 := nrfl rfl
theorem li_110 : (110 : Int32) = nI 110 := nrfl rfl
theorem li_111 : (111 : Int32) = nI 111 := nrfl rfl
theorem li_112 : (112 : Int32) = nI 112 := nrfl rfl
theorem li_113 : (113 : Int32) = nI 113 := nrfl rfl
theorem li_114 : (114 : Int32) = nI 114 := nrfl rfl
theorem li_115 : (115 : Int32) = nI 115 := nrfl rfl
theorem li_116 : (116 : Int32) = nI 116 := nrfl rfl
theorem li_117 : (117 : Int32) = nI 117 := nrfl rfl
theorem li_118 : (118 : Int32) = nI 118 := nrfl rfl
theorem li_119 : (119 : Int32) = nI 119 := nrfl rfl
theorem li_120 : (120 : Int32) = nI 120 := nrfl rfl
theorem li_121 : (121 : Int32) = nI 121 := nrfl rfl
theorem li_122 : (122 : Int32) = nI 122 := nrfl rfl
theorem li_123 : (123 : Int32) = nI 123 := nrfl rfl
theorem li_124 : (124 : Int32) = nI 124 := nrfl rfl
theorem li_125 : (125 : Int32) = nI 125 := nrfl rfl
theorem li_126 : (126 : Int32) = nI 126 := nrfl rfl
theorem li_127 : (127 : Int32) = nI 127 := nrfl rfl
theorem li_128 : (128 : Int32) = nI 128 := nrfl rfl
theorem li_129 : (129 : Int32) = nI 129 := nrfl rfl
theorem li_130 : (130 : Int32) = nI 130 := nrfl rfl
theorem li_366 : (366 : Int32) = nI 366 := nrfl rfl
theorem li_390 : (390 : Int32) = nI 390 := nrfl rfl
theorem li_640 : (640 : Int32) = nI 640 := nrfl rfl
theorem li_768 : (768 : Int32) = nI 768 := nrfl rfl
theorem li_1000 : (1000 : Int32) = nI 1000 := nrfl rfl
theorem li_1956 : (1956 : Int32) = nI 1956 := nrfl rfl
theorem li_2117 : (2117 : Int32) = nI 2117 := nrfl rfl
theorem li_65536 : (65536 : Int32) = nI 65536 := nrfl rfl
theorem li_1000000 : (1000000 : Int32) = nI 1000000 := nrfl rfl
theorem li_8000000 : (8000000 : Int32) = nI 8000000 := nrfl rfl
theorem bd_some {α β : Type} (x : β) (σ : mx_G) (f : β → mx_G → Option (α × mx_G)) : mv_bind (some (x, σ)) f = f x σ := nrfl rfl
theorem bd_none {α β : Type} (f : β → mx_G → Option (α × mx_G)) : mv_bind none f = none := nrfl rfl
theorem rd_gi (σ : mx_G) (p k : Nat) (x : Int32) (q : Nat) : (gi σ p k x).1 q = if q = p then upd (σ.1 p) k x else σ.1 q := nrfl rfl
theorem rd_gi2 (σ : mx_G) (p k : Nat) (x : Int32) : (gi σ p k x).2 = σ.2 := nrfl rfl
theorem rd_gs (σ : mx_G) (p : Nat) (f : Nat → Int32) (q : Nat) : (gs σ p f).1 q = if q = p then f else σ.1 q := nrfl rfl
theorem rd_gs2 (σ : mx_G) (p : Nat) (f : Nat → Int32) : (gs σ p f).2 = σ.2 := nrfl rfl
theorem rd_gl (σ : mx_G) (p k : Nat) (x : Int64) (q : Nat) : (gl σ p k x).2 q = if q = p then vp_updL (σ.2 p) k x else σ.2 q := nrfl rfl
theorem rd_gl1 (σ : mx_G) (p k : Nat) (x : Int64) : (gl σ p k x).1 = σ.1 := nrfl rfl
theorem rd_gt (σ : mx_G) (p : Nat) (f : Nat → Int64) (q : Nat) : (gt σ p f).2 q = if q = p then f else σ.2 q := nrfl rfl
theorem rd_gt1 (σ : mx_G) (p : Nat) (f : Nat → Int64) : (gt σ p f).1 = σ.1 := nrfl rfl
theorem upd_rd (f : Nat → Int32) (k : Nat) (x : Int32) (j : Nat) : upd f k x j = if j = k then x else f j := nrfl rfl
theorem updL_rd (f : Nat → Int64) (k : Nat) (x : Int64) (j : Nat) : vp_updL f k x j = if j = k then x else f j := nrfl rfl
theorem ixT {k n : Nat} (h : k < n) (hn : n < 2147483648) : ix (nI k) n = true := ix_in.mpr (vp_in_nI h hn)
theorem clI {k : Nat} (h : k < 2147483648) : Int32.toNatClampNeg (nI k) = k := nI_clamp h
theorem eqI {a b : Nat} (ha : a < 2147483648) (hb : b < 2147483648) : (nI a = nI b) = (a = b) := propext (nI_eq ha hb)
theorem leI {a b : Nat} (ha : a < 2147483648) (hb : b < 2147483648) : (nI a ≤ nI b) = (a ≤ b) := propext (nI_leI ha hb)
theorem ltI {a b : Nat} (ha : a < 2147483648) (hb : b < 2147483648) : (nI a < nI b) = (a < b) := propext (nI_ltI ha hb)
theorem adI (a b : Nat) : nI a + nI b = nI (a + b) := nI_add a b
theorem muI (a b : Nat) : nI a * nI b = nI (a * b) := pk_mul a b
theorem suI {a b : Nat} (h : b ≤ a) : nI a - nI b = nI (a - b) := pk_sub h
theorem dvI {a d : Nat} (ha : a < 2147483648) (h0 : 0 < d) (hd : d < 2147483648) : nI a / nI d = nI (a / d) := pk_div ha h0 hd
theorem rmI {a d : Nat} (ha : a < 2147483648) (h0 : 0 < d) (hd : d < 2147483648) : mv_rem (nI a) (nI d) = nI (a % d) := pk_rem ha h0 hd
theorem neI {a : Nat} (ha : a < 2147483648) : (nI a = -4) = False := by
  apply eq_false
  intro h
  have h1 := nI_toInt ha
  rw [h] at h1
  have h2 : (-4 : Int32).toInt = -4 := by decide
  omega
theorem ngI {a : Nat} (ha : a < 2147483648) : (nI a < nI 0) = False := by
  rw [ltI ha (by omega)]; simp
theorem nI_ex (x : Int32) : x < 0 ∨ ∃ j : Nat, j < 2147483648 ∧ x = nI j := by
  rcases Int32.lt_or_le x 0 with h | h
  · exact Or.inl h
  · exact Or.inr (nI_of (Int32.not_lt.mpr h))
theorem sx_isDomain {s : mx_G} {n : Nat} (hn : s.1 2 0 = nI n) (hn6 : n ≤ 6) (p : Int32) : fX9_isDomain p s = some (if 0 ≤ p ∧ p < nI n then 1 else 0, s) := by
  unfold fX9_isDomain
  simp (disch := omega) only [li_0, ixT, clI, if_true, hn]
  by_cases h : p < nI 0
  · rw [if_pos h, if_neg (fun z => Int32.not_lt.mpr z.1 h)]
  · rw [if_neg h]
    by_cases h2 : nI n ≤ p
    · rw [if_pos h2, if_neg (fun z => Int32.not_le.mpr z.2 h2)]
    · rw [if_neg h2, if_pos ⟨Int32.not_lt.mp h, Int32.not_le.mp h2⟩]

theorem sx_sortOf {s : mx_G} {a b : Nat} (ha : a < 6) (hb : b < 6) : fX9_sortOf (nI a) (nI b) s = some (s.1 2 (13 + a * 6 + b), s) := by
  simp (disch := omega) only [fX9_sortOf, li_13, li_6, muI, adI, ixT, clI, if_true]
theorem sx_setLink {s : mx_G} {a b t : Nat} (ha : a < 6) (hb : b < 6) (ht : t ≤ 3) : fX9_setLink (nI a) (nI b) (nI t) s = some ((), gi (gi (gi (gi s 2 (13 + a * 6 + b) (nI t)) 2 (13 + b * 6 + a) (nI (if t = 0 then 0 else 4 - t))) 2 (49 + a * 6 + b) (nI 0)) 2 (49 + b * 6 + a) (nI 0)) := by
  by_cases h0 : t = 0 <;> simp (disch := omega) only [fX9_setLink, fX9_setCut, li_13, li_6, li_0, li_4, li_49, muI, adI, ixT, clI, eqI, suI, if_true, mv_let, bd_some, h0, if_false]
