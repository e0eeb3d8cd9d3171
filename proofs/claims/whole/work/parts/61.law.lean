def LL_law_18 (Ln : Nat) (xs : (Nat → Int32)) : Nat → Int32 → Sg → Option Int32
  | 0, _, _ => none
  | n + 1, x3_1, σ_2 => if ((Int32.ofNat Ln) - (6 : Int32)) < x3_1 then (some (1 : Int32)) else (if ib x3_1 Ln then lt (fun (σ_4 : Sg) => lt (x3_1 + (6 : Int32)) (fun (x3_6 : Int32) => LL_law_18 Ln xs n x3_6 σ_4)) (fun (k1331_5 : Sg → Option Int32) => lt ((xs x3_1.toNatClampNeg) &&& (63 : Int32)) (fun (w_7 : Int32) => if w_7 = (0 : Int32) then (if ib (x3_1 + (1 : Int32)) Ln then if ib (x3_1 + (2 : Int32)) Ln then if ib (x3_1 + (3 : Int32)) Ln then if ib (x3_1 + (4 : Int32)) Ln then if ib (x3_1 + (5 : Int32)) Ln then b2 (XX9_feed (xs (x3_1 + (1 : Int32)).toNatClampNeg) (xs (x3_1 + (2 : Int32)).toNatClampNeg) (xs (x3_1 + (3 : Int32)).toNatClampNeg) (xs (x3_1 + (4 : Int32)).toNatClampNeg) (xs (x3_1 + (5 : Int32)).toNatClampNeg) σ_2) (fun (r_13 : Int32) (σ_14 : Sg) => b2 (XX10_feed (xs (x3_1 + (1 : Int32)).toNatClampNeg) (xs (x3_1 + (2 : Int32)).toNatClampNeg) (xs (x3_1 + (3 : Int32)).toNatClampNeg) (xs (x3_1 + (4 : Int32)).toNatClampNeg) (xs (x3_1 + (5 : Int32)).toNatClampNeg) σ_14) (fun (r_15 : Int32) (σ_16 : Sg) => if r_13 = r_15 then (k1331_5 σ_16) else (some (0 : Int32)))) else none else none else none else none else none) else (if w_7 = (1 : Int32) then (if ib (x3_1 + (1 : Int32)) Ln then b2 (XX9_end (xs (x3_1 + (1 : Int32)).toNatClampNeg) σ_2) (fun (r_19 : Int32) (σ_20 : Sg) => b2 (XX10_end (xs (x3_1 + (1 : Int32)).toNatClampNeg) σ_20) (fun (r_21 : Int32) (σ_22 : Sg) => if r_19 = r_21 then (k1331_5 σ_22) else (some (0 : Int32)))) else none) else (if w_7 = (2 : Int32) then (b2 (XX9_text σ_2) (fun (r_24 : Int32) (σ_25 : Sg) => b2 (XX10_text σ_25) (fun (r_26 : Int32) (σ_27 : Sg) => if r_24 = r_26 then (k1331_5 σ_27) else (some (0 : Int32))))) else (if w_7 = (3 : Int32) then (if ib (x3_1 + (1 : Int32)) Ln then b1 (XX9_fault (xs (x3_1 + (1 : Int32)).toNatClampNeg) σ_2) (fun (r_30 : Int32) => b2 (XX10_fault (xs (x3_1 + (1 : Int32)).toNatClampNeg) σ_2) (fun (r_31 : Int32) (σ_32 : Sg) => if r_30 = r_31 then (k1331_5 σ_32) else (some (0 : Int32)))) else none) else (if w_7 = (4 : Int32) then (if ib (x3_1 + (1 : Int32)) Ln then b1 (XX9_about (xs (x3_1 + (1 : Int32)).toNatClampNeg) σ_2) (fun (r_35 : Int32) => b2 (XX10_about (xs (x3_1 + (1 : Int32)).toNatClampNeg) σ_2) (fun (r_36 : Int32) (σ_37 : Sg) => if r_35 = r_36 then (k1331_5 σ_37) else (some (0 : Int32)))) else none) else (if w_7 = (5 : Int32) then (if ib (x3_1 + (1 : Int32)) Ln then if ib (x3_1 + (2 : Int32)) Ln then b1 (XX9_shop (xs (x3_1 + (1 : Int32)).toNatClampNeg) (xs (x3_1 + (2 : Int32)).toNatClampNeg) σ_2) (fun (r_41 : Int32) => b2 (XX10_shop (xs (x3_1 + (1 : Int32)).toNatClampNeg) (xs (x3_1 + (2 : Int32)).toNatClampNeg) σ_2) (fun (r_42 : Int32) (σ_43 : Sg) => if r_41 = r_42 then (k1331_5 σ_43) else (some (0 : Int32)))) else none else none) else (if w_7 = (6 : Int32) then (if ib (x3_1 + (1 : Int32)) Ln then if ib (x3_1 + (2 : Int32)) Ln then b1 (XX9_load (xs (x3_1 + (1 : Int32)).toNatClampNeg) (xs (x3_1 + (2 : Int32)).toNatClampNeg) σ_2) (fun (r_47 : Int32) => b2 (XX10_load (xs (x3_1 + (1 : Int32)).toNatClampNeg) (xs (x3_1 + (2 : Int32)).toNatClampNeg) σ_2) (fun (r_48 : Int32) (σ_49 : Sg) => if r_47 = r_48 then (k1331_5 σ_49) else (some (0 : Int32)))) else none else none) else (if w_7 = (7 : Int32) then (if ib (x3_1 + (1 : Int32)) Ln then if ib (x3_1 + (2 : Int32)) Ln then b1 (XX9_stock (xs (x3_1 + (1 : Int32)).toNatClampNeg) (xs (x3_1 + (2 : Int32)).toNatClampNeg) σ_2) (fun (r_53 : Int32) => b2 (XX10_stock (xs (x3_1 + (1 : Int32)).toNatClampNeg) (xs (x3_1 + (2 : Int32)).toNatClampNeg) σ_2) (fun (r_54 : Int32) (σ_55 : Sg) => if r_53 = r_54 then (k1331_5 σ_55) else (some (0 : Int32)))) else none else none) else (if w_7 = (8 : Int32) then (if ib (x3_1 + (1 : Int32)) Ln then if ib (x3_1 + (2 : Int32)) Ln then b1 (XX9_lost (xs (x3_1 + (1 : Int32)).toNatClampNeg) (xs (x3_1 + (2 : Int32)).toNatClampNeg) σ_2) (fun (r_59 : Int32) => b2 (XX10_lost (xs (x3_1 + (1 : Int32)).toNatClampNeg) (xs (x3_1 + (2 : Int32)).toNatClampNeg) σ_2) (fun (r_60 : Int32) (σ_61 : Sg) => if r_59 = r_60 then (k1331_5 σ_61) else (some (0 : Int32)))) else none else none) else (if w_7 = (9 : Int32) then (if ib (x3_1 + (1 : Int32)) Ln then if ib (x3_1 + (2 : Int32)) Ln then b1 (XX9_of (xs (x3_1 + (1 : Int32)).toNatClampNeg) (xs (x3_1 + (2 : Int32)).toNatClampNeg) σ_2) (fun (r_65 : Int32) => b2 (XX10_of (xs (x3_1 + (1 : Int32)).toNatClampNeg) (xs (x3_1 + (2 : Int32)).toNatClampNeg) σ_2) (fun (r_66 : Int32) (σ_67 : Sg) => if r_65 = r_66 then (k1331_5 σ_67) else (some (0 : Int32)))) else none else none) else (if w_7 = (10 : Int32) then (if ib (x3_1 + (1 : Int32)) Ln then b1 (XX9_empty (xs (x3_1 + (1 : Int32)).toNatClampNeg) σ_2) (fun (r_70 : Int32) => b2 (XX10_empty (xs (x3_1 + (1 : Int32)).toNatClampNeg) σ_2) (fun (r_71 : Int32) (σ_72 : Sg) => if r_70 = r_71 then (k1331_5 σ_72) else (some (0 : Int32)))) else none) else (if w_7 = (11 : Int32) then (if ib (x3_1 + (1 : Int32)) Ln then if ib (x3_1 + (2 : Int32)) Ln then b1 (XX9_bears (xs (x3_1 + (1 : Int32)).toNatClampNeg) (xs (x3_1 + (2 : Int32)).toNatClampNeg) σ_2) (fun (r_76 : Int32) => b2 (XX10_bears (xs (x3_1 + (1 : Int32)).toNatClampNeg) (xs (x3_1 + (2 : Int32)).toNatClampNeg) σ_2) (fun (r_77 : Int32) (σ_78 : Sg) => if r_76 = r_77 then (k1331_5 σ_78) else (some (0 : Int32)))) else none else none) else (if w_7 = (12 : Int32) then (if ib (x3_1 + (1 : Int32)) Ln then if ib (x3_1 + (2 : Int32)) Ln then b1 (XX9_waits (xs (x3_1 + (1 : Int32)).toNatClampNeg) (xs (x3_1 + (2 : Int32)).toNatClampNeg) σ_2) (fun (r_82 : Int32) => b2 (XX10_waits (xs (x3_1 + (1 : Int32)).toNatClampNeg) (xs (x3_1 + (2 : Int32)).toNatClampNeg) σ_2) (fun (r_83 : Int32) (σ_84 : Sg) => if r_82 = r_83 then (k1331_5 σ_84) else (some (0 : Int32)))) else none else none) else (if w_7 = (13 : Int32) then (if ib (x3_1 + (1 : Int32)) Ln then if ib (x3_1 + (2 : Int32)) Ln then if ib (x3_1 + (3 : Int32)) Ln then if ib (x3_1 + (4 : Int32)) Ln then b1 (XX9_chance (xs (x3_1 + (1 : Int32)).toNatClampNeg) (xs (x3_1 + (2 : Int32)).toNatClampNeg) (xs (x3_1 + (3 : Int32)).toNatClampNeg) (xs (x3_1 + (4 : Int32)).toNatClampNeg) σ_2) (fun (r_90 : Int32) => b2 (XX10_chance (xs (x3_1 + (1 : Int32)).toNatClampNeg) (xs (x3_1 + (2 : Int32)).toNatClampNeg) (xs (x3_1 + (3 : Int32)).toNatClampNeg) (xs (x3_1 + (4 : Int32)).toNatClampNeg) σ_2) (fun (r_91 : Int32) (σ_92 : Sg) => if r_90 = r_91 then (k1331_5 σ_92) else (some (0 : Int32)))) else none else none else none else none) else (if w_7 = (14 : Int32) then (if ib (x3_1 + (1 : Int32)) Ln then b2 (XX9_rounds (xs (x3_1 + (1 : Int32)).toNatClampNeg) σ_2) (fun (r_95 : Int32) (σ_96 : Sg) => b2 (XX10_rounds (xs (x3_1 + (1 : Int32)).toNatClampNeg) σ_96) (fun (r_97 : Int32) (σ_98 : Sg) => if r_95 = r_97 then (k1331_5 σ_98) else (some (0 : Int32)))) else none) else (if w_7 = (15 : Int32) then (if ib (x3_1 + (1 : Int32)) Ln then if ib (x3_1 + (2 : Int32)) Ln then if ib (x3_1 + (3 : Int32)) Ln then b2 (XX9_round (xs (x3_1 + (1 : Int32)).toNatClampNeg) (xs (x3_1 + (2 : Int32)).toNatClampNeg) (xs (x3_1 + (3 : Int32)).toNatClampNeg) σ_2) (fun (r_103 : Int32) (σ_104 : Sg) => b2 (XX10_round (xs (x3_1 + (1 : Int32)).toNatClampNeg) (xs (x3_1 + (2 : Int32)).toNatClampNeg) (xs (x3_1 + (3 : Int32)).toNatClampNeg) σ_104) (fun (r_105 : Int32) (σ_106 : Sg) => if r_103 = r_105 then (k1331_5 σ_106) else (some (0 : Int32)))) else none else none else none) else (if w_7 = (16 : Int32) then (if ib (x3_1 + (1 : Int32)) Ln then if ib (x3_1 + (2 : Int32)) Ln then if ib (x3_1 + (3 : Int32)) Ln then b2 (XX9_aboard (xs (x3_1 + (1 : Int32)).toNatClampNeg) (xs (x3_1 + (2 : Int32)).toNatClampNeg) (xs (x3_1 + (3 : Int32)).toNatClampNeg) σ_2) (fun (r_111 : Int32) (σ_112 : Sg) => b2 (XX10_aboard (xs (x3_1 + (1 : Int32)).toNatClampNeg) (xs (x3_1 + (2 : Int32)).toNatClampNeg) (xs (x3_1 + (3 : Int32)).toNatClampNeg) σ_112) (fun (r_113 : Int32) (σ_114 : Sg) => if r_111 = r_113 then (k1331_5 σ_114) else (some (0 : Int32)))) else none else none else none) else (if w_7 = (17 : Int32) then (if ib (x3_1 + (1 : Int32)) Ln then b1 (XX9_miles (xs (x3_1 + (1 : Int32)).toNatClampNeg) σ_2) (fun (r_117 : Int32) => b2 (XX10_miles (xs (x3_1 + (1 : Int32)).toNatClampNeg) σ_2) (fun (r_118 : Int32) (σ_119 : Sg) => if r_117 = r_118 then (k1331_5 σ_119) else (some (0 : Int32)))) else none) else (if w_7 = (18 : Int32) then (if ib (x3_1 + (1 : Int32)) Ln then if ib (x3_1 + (2 : Int32)) Ln then b1 (XX9_together (xs (x3_1 + (1 : Int32)).toNatClampNeg) (xs (x3_1 + (2 : Int32)).toNatClampNeg) σ_2) (fun (r_123 : Int32) => b2 (XX10_together (xs (x3_1 + (1 : Int32)).toNatClampNeg) (xs (x3_1 + (2 : Int32)).toNatClampNeg) σ_2) (fun (r_124 : Int32) (σ_125 : Sg) => if r_123 = r_124 then (k1331_5 σ_125) else (some (0 : Int32)))) else none else none) else (if w_7 = (19 : Int32) then (if ib (x3_1 + (1 : Int32)) Ln then if ib (x3_1 + (2 : Int32)) Ln then b2 (XX9_savings (xs (x3_1 + (1 : Int32)).toNatClampNeg) (xs (x3_1 + (2 : Int32)).toNatClampNeg) σ_2) (fun (r_129 : Int32) (σ_130 : Sg) => b2 (XX10_savings (xs (x3_1 + (1 : Int32)).toNatClampNeg) (xs (x3_1 + (2 : Int32)).toNatClampNeg) σ_130) (fun (r_131 : Int32) (σ_132 : Sg) => if r_129 = r_131 then (k1331_5 σ_132) else (some (0 : Int32)))) else none else none) else (if w_7 = (20 : Int32) then (if ib (x3_1 + (1 : Int32)) Ln then if ib (x3_1 + (2 : Int32)) Ln then if ib (x3_1 + (3 : Int32)) Ln then b2 (XX9_share (xs (x3_1 + (1 : Int32)).toNatClampNeg) (xs (x3_1 + (2 : Int32)).toNatClampNeg) (xs (x3_1 + (3 : Int32)).toNatClampNeg) σ_2) (fun (r_137 : Int32) (σ_138 : Sg) => b2 (XX10_share (xs (x3_1 + (1 : Int32)).toNatClampNeg) (xs (x3_1 + (2 : Int32)).toNatClampNeg) (xs (x3_1 + (3 : Int32)).toNatClampNeg) σ_138) (fun (r_139 : Int32) (σ_140 : Sg) => if r_137 = r_139 then (k1331_5 σ_140) else (some (0 : Int32)))) else none else none else none) else (if w_7 = (21 : Int32) then (if ib (x3_1 + (1 : Int32)) Ln then b1 (XX9_peak (xs (x3_1 + (1 : Int32)).toNatClampNeg) σ_2) (fun (r_143 : Int32) => b2 (XX10_peak (xs (x3_1 + (1 : Int32)).toNatClampNeg) σ_2) (fun (r_144 : Int32) (σ_145 : Sg) => if r_143 = r_144 then (k1331_5 σ_145) else (some (0 : Int32)))) else none) else (if w_7 = (22 : Int32) then (if ib (x3_1 + (1 : Int32)) Ln then b2 (XX9_cost (xs (x3_1 + (1 : Int32)).toNatClampNeg) σ_2) (fun (r_148 : Int32) (σ_149 : Sg) => b2 (XX10_cost (xs (x3_1 + (1 : Int32)).toNatClampNeg) σ_149) (fun (r_150 : Int32) (σ_151 : Sg) => if r_148 = r_150 then (k1331_5 σ_151) else (some (0 : Int32)))) else none) else (if w_7 = (23 : Int32) then (if ib (x3_1 + (1 : Int32)) Ln then b2 (XX9_costOf (xs (x3_1 + (1 : Int32)).toNatClampNeg) σ_2) (fun (r_154 : Int32) (σ_155 : Sg) => b2 (XX10_costOf (xs (x3_1 + (1 : Int32)).toNatClampNeg) σ_155) (fun (r_156 : Int32) (σ_157 : Sg) => if r_154 = r_156 then (k1331_5 σ_157) else (some (0 : Int32)))) else none) else (if w_7 = (24 : Int32) then (if ib (x3_1 + (1 : Int32)) Ln then if ib (x3_1 + (2 : Int32)) Ln then b2 (XX9_worth (xs (x3_1 + (1 : Int32)).toNatClampNeg) (xs (x3_1 + (2 : Int32)).toNatClampNeg) σ_2) (fun (r_161 : Int32) (σ_162 : Sg) => b2 (XX10_worth (xs (x3_1 + (1 : Int32)).toNatClampNeg) (xs (x3_1 + (2 : Int32)).toNatClampNeg) σ_162) (fun (r_163 : Int32) (σ_164 : Sg) => if r_161 = r_163 then (k1331_5 σ_164) else (some (0 : Int32)))) else none else none) else (if w_7 = (25 : Int32) then (if ib (x3_1 + (1 : Int32)) Ln then b2 (XX9_truck (xs (x3_1 + (1 : Int32)).toNatClampNeg) σ_2) (fun (r_167 : Int32) (σ_168 : Sg) => b2 (XX10_truck (xs (x3_1 + (1 : Int32)).toNatClampNeg) σ_168) (fun (r_169 : Int32) (σ_170 : Sg) => if r_167 = r_169 then (k1331_5 σ_170) else (some (0 : Int32)))) else none) else (if w_7 = (26 : Int32) then (b2 (XX9_reach σ_2) (fun (r_172 : Int32) (σ_173 : Sg) => b2 (XX10_reach σ_173) (fun (r_174 : Int32) (σ_175 : Sg) => if r_172 = r_174 then (k1331_5 σ_175) else (some (0 : Int32))))) else (if w_7 = (27 : Int32) then (if ib (x3_1 + (1 : Int32)) Ln then b2 (XX9_scaled (xs (x3_1 + (1 : Int32)).toNatClampNeg) σ_2) (fun (r_178 : Int32) (σ_179 : Sg) => b2 (XX10_scaled (xs (x3_1 + (1 : Int32)).toNatClampNeg) σ_179) (fun (r_180 : Int32) (σ_181 : Sg) => if r_178 = r_180 then (k1331_5 σ_181) else (some (0 : Int32)))) else none) else (if w_7 = (28 : Int32) then (if ib (x3_1 + (1 : Int32)) Ln then if ib (x3_1 + (2 : Int32)) Ln then b2 (XX9_alone (xs (x3_1 + (1 : Int32)).toNatClampNeg) (xs (x3_1 + (2 : Int32)).toNatClampNeg) σ_2) (fun (r_185 : Int32) (σ_186 : Sg) => b2 (XX10_alone (xs (x3_1 + (1 : Int32)).toNatClampNeg) (xs (x3_1 + (2 : Int32)).toNatClampNeg) σ_186) (fun (r_187 : Int32) (σ_188 : Sg) => if r_185 = r_187 then (k1331_5 σ_188) else (some (0 : Int32)))) else none else none) else (if w_7 = (29 : Int32) then (if ib (x3_1 + (1 : Int32)) Ln then if ib (x3_1 + (2 : Int32)) Ln then b2 (XX9_every (xs (x3_1 + (1 : Int32)).toNatClampNeg) (xs (x3_1 + (2 : Int32)).toNatClampNeg) σ_2) (fun (r_192 : Int32) (σ_193 : Sg) => b2 (XX10_every (xs (x3_1 + (1 : Int32)).toNatClampNeg) (xs (x3_1 + (2 : Int32)).toNatClampNeg) σ_193) (fun (r_194 : Int32) (σ_195 : Sg) => if r_192 = r_194 then (k1331_5 σ_195) else (some (0 : Int32)))) else none else none) else (if w_7 = (30 : Int32) then (if ib (x3_1 + (1 : Int32)) Ln then b2 (XX9_joint (xs (x3_1 + (1 : Int32)).toNatClampNeg) σ_2) (fun (r_198 : Int32) (σ_199 : Sg) => b2 (XX10_joint (xs (x3_1 + (1 : Int32)).toNatClampNeg) σ_199) (fun (r_200 : Int32) (σ_201 : Sg) => if r_198 = r_200 then (k1331_5 σ_201) else (some (0 : Int32)))) else none) else (if w_7 = (31 : Int32) then (if ib (x3_1 + (1 : Int32)) Ln then if ib (x3_1 + (2 : Int32)) Ln then b2 (XX9_visit (xs (x3_1 + (1 : Int32)).toNatClampNeg) (xs (x3_1 + (2 : Int32)).toNatClampNeg) σ_2) (fun (r_205 : Int32) (σ_206 : Sg) => b2 (XX10_visit (xs (x3_1 + (1 : Int32)).toNatClampNeg) (xs (x3_1 + (2 : Int32)).toNatClampNeg) σ_206) (fun (r_207 : Int32) (σ_208 : Sg) => if r_205 = r_207 then (k1331_5 σ_208) else (some (0 : Int32)))) else none else none) else (if w_7 = (32 : Int32) then (if ib (x3_1 + (1 : Int32)) Ln then b2 (XX9_rule (xs (x3_1 + (1 : Int32)).toNatClampNeg) σ_2) (fun (r_211 : Int32) (σ_212 : Sg) => b2 (XX10_rule (xs (x3_1 + (1 : Int32)).toNatClampNeg) σ_212) (fun (r_213 : Int32) (σ_214 : Sg) => if r_211 = r_213 then (k1331_5 σ_214) else (some (0 : Int32)))) else none) else (if w_7 = (33 : Int32) then (if ib (x3_1 + (1 : Int32)) Ln then b2 (XX9_better (xs (x3_1 + (1 : Int32)).toNatClampNeg) σ_2) (fun (r_217 : Int32) (σ_218 : Sg) => b2 (XX10_better (xs (x3_1 + (1 : Int32)).toNatClampNeg) σ_218) (fun (r_219 : Int32) (σ_220 : Sg) => if r_217 = r_219 then (k1331_5 σ_220) else (some (0 : Int32)))) else none) else (if w_7 = (34 : Int32) then (if ib (x3_1 + (1 : Int32)) Ln then b2 (XX9_tune (xs (x3_1 + (1 : Int32)).toNatClampNeg) σ_2) (fun (r_223 : Int32) (σ_224 : Sg) => b2 (XX10_tune (xs (x3_1 + (1 : Int32)).toNatClampNeg) σ_224) (fun (r_225 : Int32) (σ_226 : Sg) => if r_223 = r_225 then (k1331_5 σ_226) else (some (0 : Int32)))) else none) else (if w_7 = (35 : Int32) then (b2 (XX9_least σ_2) (fun (r_228 : Int32) (σ_229 : Sg) => b2 (XX10_least σ_229) (fun (r_230 : Int32) (σ_231 : Sg) => if r_228 = r_230 then (k1331_5 σ_231) else (some (0 : Int32))))) else (if w_7 = (36 : Int32) then (b2 (XX9_clear σ_2) (fun (r_233 : Int32) (σ_234 : Sg) => b2 (XX10_clear σ_234) (fun (r_235 : Int32) (σ_236 : Sg) => if r_233 = r_235 then (k1331_5 σ_236) else (some (0 : Int32))))) else (if w_7 = (37 : Int32) then (if ib (x3_1 + (1 : Int32)) Ln then if ib (x3_1 + (2 : Int32)) Ln then if ib (x3_1 + (3 : Int32)) Ln then b2 (XX9_rush (xs (x3_1 + (1 : Int32)).toNatClampNeg) (xs (x3_1 + (2 : Int32)).toNatClampNeg) (xs (x3_1 + (3 : Int32)).toNatClampNeg) σ_2) (fun (r_241 : Int32) (σ_242 : Sg) => b2 (XX10_rush (xs (x3_1 + (1 : Int32)).toNatClampNeg) (xs (x3_1 + (2 : Int32)).toNatClampNeg) (xs (x3_1 + (3 : Int32)).toNatClampNeg) σ_242) (fun (r_243 : Int32) (σ_244 : Sg) => if r_241 = r_243 then (k1331_5 σ_244) else (some (0 : Int32)))) else none else none else none) else (if w_7 = (38 : Int32) then (b2 (XX9_undo σ_2) (fun (r_246 : Int32) (σ_247 : Sg) => b2 (XX10_undo σ_247) (fun (r_248 : Int32) (σ_249 : Sg) => if r_246 = r_248 then (k1331_5 σ_249) else (some (0 : Int32))))) else (k1331_5 σ_2))))))))))))))))))))))))))))))))))))))))) else none)
theorem lL_law_18 {X : CT} {ad : Nat → Nat} {rr : Int32} {Ln : Nat} {xs : (Nat → Int32)} (hX : Scr X ad Ln xs) (C : Cx X cL_law 4 RL (some .boolean) room_1) (R : RLw X ad rr)  : ∀ (n : Nat) (x3_1 : Int32) (σ_2 : Sg), LL_law_18 Ln xs n x3_1 σ_2 = some rr → AW X 92 7821 ad (SHc ++ SHm) σ_2 18 [some (.ref 999), some (.ref 0), some (.ref 64), some (.int x3_1)] [] := by
  intro n
  induction n with
  | zero =>
    intro x3_1 σ_2 h
    rw [LL_law_18] at h
    cases h
  | succ n ih =>
    intro x3_1 σ_2 h
    rw [LL_law_18] at h
    refine a_iload_n C eL_law_18 rfl ?_
    refine a_aload_n C eL_law_19 rfl ?_
    refine a_slen C eL_law_20 hX ?_
    refine a_bipush C eL_law_21 (6 : Int32) c_bipush_6 ?_
    refine a_isub C eL_law_23 ?_
    refine a_icmp_gt C eL_law_24 (fun hc => ?_) (fun hc => ?_)
    · replace h := it hc h
      refine a_iconst C eL_law_1337 (1 : Int32) c_iconst_1 ?_
      exact rt_L R eL_law_1338 h
    · replace h := ie hc h
      refine a_aload_n C eL_law_27 rfl ?_
      refine a_iload_n C eL_law_28 rfl ?_
      obtain ⟨hb_3, h⟩ := gd h
      refine a_sld C eL_law_29 hX hb_3 ?_
      refine a_bipush C eL_law_30 (63 : Int32) c_bipush_63 ?_
      refine a_iand C eL_law_32 ?_
      refine jn (fun (kk : Sg → Option Int32) => ∀ (σ_4 : Sg), kk σ_4 = some rr → AW X 92 7821 ad (SHc ++ SHm) σ_4 1331 [some (.ref 999), some (.ref 0), some (.ref 64), some (.int x3_1)] []) h ?_ (fun k1331_5 hk1331_5 h => ?_)
      · intro σ_4 h
        refine a_inc C eL_law_1331 rfl c_iconst_6 h (fun z => [some (.ref 999), some (.ref 0), some (.ref 64), some (.int z)]) (fun _ => rfl) (fun x3_6 h => ?_)
        refine a_goto C eL_law_1334 ?_
        exact a_less (lle_same (lle_same (lle_same (lle_same lle_nil)))) (ih _ _ h)
      refine a_lt h (fun w_7 h => ?_)
      by_cases hs_17 : w_7 = (0 : Int32)
      · replace h := it hs_17 h
        refine a_tsw C eL_law_33 (0 : Int32) hs_17 (by decide) (by decide) rfl (tgt := 204) rfl ?_
        refine a_aload_n C eL_law_204 rfl ?_
        refine a_aload_n C eL_law_205 rfl ?_
        refine a_iload_n C eL_law_206 rfl ?_
        refine a_iconst C eL_law_207 (1 : Int32) c_iconst_1 ?_
        refine a_iadd C eL_law_208 ?_
        obtain ⟨hb_8, h⟩ := gd h
        refine a_sld C eL_law_209 hX hb_8 ?_
        refine a_aload_n C eL_law_210 rfl ?_
        refine a_iload_n C eL_law_211 rfl ?_
        refine a_iconst C eL_law_212 (2 : Int32) c_iconst_2 ?_
        refine a_iadd C eL_law_213 ?_
        obtain ⟨hb_9, h⟩ := gd h
        refine a_sld C eL_law_214 hX hb_9 ?_
        refine a_aload_n C eL_law_215 rfl ?_
        refine a_iload_n C eL_law_216 rfl ?_
        refine a_iconst C eL_law_217 (3 : Int32) c_iconst_3 ?_
        refine a_iadd C eL_law_218 ?_
        obtain ⟨hb_10, h⟩ := gd h
        refine a_sld C eL_law_219 hX hb_10 ?_
        refine a_aload_n C eL_law_220 rfl ?_
        refine a_iload_n C eL_law_221 rfl ?_
        refine a_iconst C eL_law_222 (4 : Int32) c_iconst_4 ?_
        refine a_iadd C eL_law_223 ?_
        obtain ⟨hb_11, h⟩ := gd h
        refine a_sld C eL_law_224 hX hb_11 ?_
        refine a_aload_n C eL_law_225 rfl ?_
        refine a_iload_n C eL_law_226 rfl ?_
        refine a_iconst C eL_law_227 (5 : Int32) c_iconst_5 ?_
        refine a_iadd C eL_law_228 ?_
        obtain ⟨hb_12, h⟩ := gd h
        refine a_sld C eL_law_229 hX hb_12 ?_
        obtain ⟨r_13, σ_14, hq, h⟩ := b2_e h
        refine a_dVi5 C eL_law_230 wL_13 ⟨Nat.le_of_ble_eq_true rfl, Nat.le_of_ble_eq_true rfl, rfl, rfl⟩ ⟨Nat.le_refl _, Nat.le_refl _⟩ rfl sh_0 rfl (kX9_feed hq) (Nat.le_of_ble_eq_true rfl) ?_
        refine a_aload_n C eL_law_233 rfl ?_
        refine a_aload_n C eL_law_234 rfl ?_
        refine a_iload_n C eL_law_235 rfl ?_
        refine a_iconst C eL_law_236 (1 : Int32) c_iconst_1 ?_
        refine a_iadd C eL_law_237 ?_
        refine a_sld C eL_law_238 hX hb_8 ?_
        refine a_aload_n C eL_law_239 rfl ?_
        refine a_iload_n C eL_law_240 rfl ?_
        refine a_iconst C eL_law_241 (2 : Int32) c_iconst_2 ?_
        refine a_iadd C eL_law_242 ?_
        refine a_sld C eL_law_243 hX hb_9 ?_
        refine a_aload_n C eL_law_244 rfl ?_
        refine a_iload_n C eL_law_245 rfl ?_
        refine a_iconst C eL_law_246 (3 : Int32) c_iconst_3 ?_
        refine a_iadd C eL_law_247 ?_
        refine a_sld C eL_law_248 hX hb_10 ?_
        refine a_aload_n C eL_law_249 rfl ?_
        refine a_iload_n C eL_law_250 rfl ?_
        refine a_iconst C eL_law_251 (4 : Int32) c_iconst_4 ?_
        refine a_iadd C eL_law_252 ?_
        refine a_sld C eL_law_253 hX hb_11 ?_
        refine a_aload_n C eL_law_254 rfl ?_
        refine a_iload_n C eL_law_255 rfl ?_
        refine a_iconst C eL_law_256 (5 : Int32) c_iconst_5 ?_
        refine a_iadd C eL_law_257 ?_
        refine a_sld C eL_law_258 hX hb_12 ?_
        obtain ⟨r_15, σ_16, hq, h⟩ := b2_e h
        refine a_dVi5 C eL_law_259 wL_17 ⟨Nat.le_of_ble_eq_true rfl, Nat.le_of_ble_eq_true rfl, rfl, rfl⟩ ⟨Nat.le_refl _, Nat.le_refl _⟩ rfl sh_64 rfl (kX10_feed hq) (Nat.le_of_ble_eq_true rfl) ?_
        refine a_icmp_eq C eL_law_262 (fun hc => ?_) (fun hc => ?_)
        · replace h := it hc h
          exact a_less (lle_same (lle_same (lle_same (lle_same lle_nil)))) (hk1331_5 _ h)
        · replace h := ie hc h
          refine a_iconst C eL_law_265 (0 : Int32) c_iconst_0 ?_
          exact rt_L R eL_law_266 h
      replace h := ie hs_17 h
      by_cases hs_23 : w_7 = (1 : Int32)
      · replace h := it hs_23 h
        refine a_tsw C eL_law_33 (1 : Int32) hs_23 (by decide) (by decide) rfl (tgt := 267) rfl ?_
        refine a_aload_n C eL_law_267 rfl ?_
        refine a_aload_n C eL_law_268 rfl ?_
        refine a_iload_n C eL_law_269 rfl ?_
        refine a_iconst C eL_law_270 (1 : Int32) c_iconst_1 ?_
        refine a_iadd C eL_law_271 ?_
        obtain ⟨hb_18, h⟩ := gd h
        refine a_sld C eL_law_272 hX hb_18 ?_
        obtain ⟨r_19, σ_20, hq, h⟩ := b2_e h
        refine a_dVi1 C eL_law_273 wL_18 ⟨Nat.le_of_ble_eq_true rfl, Nat.le_of_ble_eq_true rfl, rfl, rfl⟩ ⟨Nat.le_refl _, Nat.le_refl _⟩ rfl sh_0 rfl (kX9_end hq) (Nat.le_of_ble_eq_true rfl) ?_
        refine a_aload_n C eL_law_276 rfl ?_
        refine a_aload_n C eL_law_277 rfl ?_
        refine a_iload_n C eL_law_278 rfl ?_
        refine a_iconst C eL_law_279 (1 : Int32) c_iconst_1 ?_
        refine a_iadd C eL_law_280 ?_
        refine a_sld C eL_law_281 hX hb_18 ?_
        obtain ⟨r_21, σ_22, hq, h⟩ := b2_e h
        refine a_dVi1 C eL_law_282 wL_22 ⟨Nat.le_of_ble_eq_true rfl, Nat.le_of_ble_eq_true rfl, rfl, rfl⟩ ⟨Nat.le_refl _, Nat.le_refl _⟩ rfl sh_64 rfl (kX10_end hq) (Nat.le_of_ble_eq_true rfl) ?_
        refine a_icmp_eq C eL_law_285 (fun hc => ?_) (fun hc => ?_)
        · replace h := it hc h
          exact a_less (lle_same (lle_same (lle_same (lle_same lle_nil)))) (hk1331_5 _ h)
        · replace h := ie hc h
          refine a_iconst C eL_law_288 (0 : Int32) c_iconst_0 ?_
          exact rt_L R eL_law_289 h
      replace h := ie hs_23 h
      by_cases hs_28 : w_7 = (2 : Int32)
      · replace h := it hs_28 h
        refine a_tsw C eL_law_33 (2 : Int32) hs_28 (by decide) (by decide) rfl (tgt := 290) rfl ?_
        refine a_aload_n C eL_law_290 rfl ?_
        obtain ⟨r_24, σ_25, hq, h⟩ := b2_e h
        refine a_dVi0 C eL_law_291 wL_23 ⟨Nat.le_of_ble_eq_true rfl, Nat.le_of_ble_eq_true rfl, rfl, rfl⟩ ⟨Nat.le_refl _, Nat.le_refl _⟩ rfl sh_0 rfl (kX9_text hq) (Nat.le_of_ble_eq_true rfl) ?_
        refine a_aload_n C eL_law_294 rfl ?_
        obtain ⟨r_26, σ_27, hq, h⟩ := b2_e h
        refine a_dVi0 C eL_law_295 wL_27 ⟨Nat.le_of_ble_eq_true rfl, Nat.le_of_ble_eq_true rfl, rfl, rfl⟩ ⟨Nat.le_refl _, Nat.le_refl _⟩ rfl sh_64 rfl (kX10_text hq) (Nat.le_of_ble_eq_true rfl) ?_
        refine a_icmp_eq C eL_law_298 (fun hc => ?_) (fun hc => ?_)
        · replace h := it hc h
          exact a_less (lle_same (lle_same (lle_same (lle_same lle_nil)))) (hk1331_5 _ h)
        · replace h := ie hc h
          refine a_iconst C eL_law_301 (0 : Int32) c_iconst_0 ?_
          exact rt_L R eL_law_302 h
      replace h := ie hs_28 h
      by_cases hs_33 : w_7 = (3 : Int32)
      · replace h := it hs_33 h
        refine a_tsw C eL_law_33 (3 : Int32) hs_33 (by decide) (by decide) rfl (tgt := 303) rfl ?_
        refine a_aload_n C eL_law_303 rfl ?_
        refine a_aload_n C eL_law_304 rfl ?_
        refine a_iload_n C eL_law_305 rfl ?_
        refine a_iconst C eL_law_306 (1 : Int32) c_iconst_1 ?_
        refine a_iadd C eL_law_307 ?_
        obtain ⟨hb_29, h⟩ := gd h
        refine a_sld C eL_law_308 hX hb_29 ?_
        obtain ⟨r_30, hq, h⟩ := b1_e h
        refine a_dVi1 C eL_law_309 wL_28 ⟨Nat.le_of_ble_eq_true rfl, Nat.le_of_ble_eq_true rfl, rfl, rfl⟩ ⟨Nat.le_refl _, Nat.le_refl _⟩ rfl sh_0 rfl (kX9_fault hq) (Nat.le_of_ble_eq_true rfl) ?_
        refine a_aload_n C eL_law_312 rfl ?_
        refine a_aload_n C eL_law_313 rfl ?_
        refine a_iload_n C eL_law_314 rfl ?_
        refine a_iconst C eL_law_315 (1 : Int32) c_iconst_1 ?_
        refine a_iadd C eL_law_316 ?_
        refine a_sld C eL_law_317 hX hb_29 ?_
        obtain ⟨r_31, σ_32, hq, h⟩ := b2_e h
        refine a_dVi1 C eL_law_318 wL_31 ⟨Nat.le_of_ble_eq_true rfl, Nat.le_of_ble_eq_true rfl, rfl, rfl⟩ ⟨Nat.le_refl _, Nat.le_refl _⟩ rfl sh_64 rfl (kX10_fault hq) (Nat.le_of_ble_eq_true rfl) ?_
        refine a_icmp_eq C eL_law_321 (fun hc => ?_) (fun hc => ?_)
        · replace h := it hc h
          exact a_less (lle_same (lle_same (lle_same (lle_same lle_nil)))) (hk1331_5 _ h)
        · replace h := ie hc h
          refine a_iconst C eL_law_324 (0 : Int32) c_iconst_0 ?_
          exact rt_L R eL_law_325 h
      replace h := ie hs_33 h
      by_cases hs_38 : w_7 = (4 : Int32)
      · replace h := it hs_38 h
        refine a_tsw C eL_law_33 (4 : Int32) hs_38 (by decide) (by decide) rfl (tgt := 326) rfl ?_
        refine a_aload_n C eL_law_326 rfl ?_
        refine a_aload_n C eL_law_327 rfl ?_
        refine a_iload_n C eL_law_328 rfl ?_
        refine a_iconst C eL_law_329 (1 : Int32) c_iconst_1 ?_
        refine a_iadd C eL_law_330 ?_
        obtain ⟨hb_34, h⟩ := gd h
        refine a_sld C eL_law_331 hX hb_34 ?_
        obtain ⟨r_35, hq, h⟩ := b1_e h
        refine a_dVi1 C eL_law_332 wL_32 ⟨Nat.le_of_ble_eq_true rfl, Nat.le_of_ble_eq_true rfl, rfl, rfl⟩ ⟨Nat.le_refl _, Nat.le_refl _⟩ rfl sh_0 rfl (kX9_about hq) (Nat.le_of_ble_eq_true rfl) ?_
        refine a_aload_n C eL_law_335 rfl ?_
        refine a_aload_n C eL_law_336 rfl ?_
        refine a_iload_n C eL_law_337 rfl ?_
        refine a_iconst C eL_law_338 (1 : Int32) c_iconst_1 ?_
        refine a_iadd C eL_law_339 ?_
        refine a_sld C eL_law_340 hX hb_34 ?_
        obtain ⟨r_36, σ_37, hq, h⟩ := b2_e h
        refine a_dVi1 C eL_law_341 wL_35 ⟨Nat.le_of_ble_eq_true rfl, Nat.le_of_ble_eq_true rfl, rfl, rfl⟩ ⟨Nat.le_refl _, Nat.le_refl _⟩ rfl sh_64 rfl (kX10_about hq) (Nat.le_of_ble_eq_true rfl) ?_
        refine a_icmp_eq C eL_law_344 (fun hc => ?_) (fun hc => ?_)
        · replace h := it hc h
          exact a_less (lle_same (lle_same (lle_same (lle_same lle_nil)))) (hk1331_5 _ h)
        · replace h := ie hc h
          refine a_iconst C eL_law_347 (0 : Int32) c_iconst_0 ?_
          exact rt_L R eL_law_348 h
      replace h := ie hs_38 h
      by_cases hs_44 : w_7 = (5 : Int32)
      · replace h := it hs_44 h
        refine a_tsw C eL_law_33 (5 : Int32) hs_44 (by decide) (by decide) rfl (tgt := 349) rfl ?_
        refine a_aload_n C eL_law_349 rfl ?_
        refine a_aload_n C eL_law_350 rfl ?_
        refine a_iload_n C eL_law_351 rfl ?_
        refine a_iconst C eL_law_352 (1 : Int32) c_iconst_1 ?_
        refine a_iadd C eL_law_353 ?_
        obtain ⟨hb_39, h⟩ := gd h
        refine a_sld C eL_law_354 hX hb_39 ?_
        refine a_aload_n C eL_law_355 rfl ?_
        refine a_iload_n C eL_law_356 rfl ?_
        refine a_iconst C eL_law_357 (2 : Int32) c_iconst_2 ?_
        refine a_iadd C eL_law_358 ?_
        obtain ⟨hb_40, h⟩ := gd h
        refine a_sld C eL_law_359 hX hb_40 ?_
        obtain ⟨r_41, hq, h⟩ := b1_e h
        refine a_dVi2 C eL_law_360 wL_36 ⟨Nat.le_of_ble_eq_true rfl, Nat.le_of_ble_eq_true rfl, rfl, rfl⟩ ⟨Nat.le_refl _, Nat.le_refl _⟩ rfl sh_0 rfl (kX9_shop hq) (Nat.le_of_ble_eq_true rfl) ?_
        refine a_aload_n C eL_law_363 rfl ?_
        refine a_aload_n C eL_law_364 rfl ?_
        refine a_iload_n C eL_law_365 rfl ?_
        refine a_iconst C eL_law_366 (1 : Int32) c_iconst_1 ?_
        refine a_iadd C eL_law_367 ?_
        refine a_sld C eL_law_368 hX hb_39 ?_
        refine a_aload_n C eL_law_369 rfl ?_
        refine a_iload_n C eL_law_370 rfl ?_
        refine a_iconst C eL_law_371 (2 : Int32) c_iconst_2 ?_
        refine a_iadd C eL_law_372 ?_
        refine a_sld C eL_law_373 hX hb_40 ?_
        obtain ⟨r_42, σ_43, hq, h⟩ := b2_e h
        refine a_dVi2 C eL_law_374 wL_40 ⟨Nat.le_of_ble_eq_true rfl, Nat.le_of_ble_eq_true rfl, rfl, rfl⟩ ⟨Nat.le_refl _, Nat.le_refl _⟩ rfl sh_64 rfl (kX10_shop hq) (Nat.le_of_ble_eq_true rfl) ?_
        refine a_icmp_eq C eL_law_377 (fun hc => ?_) (fun hc => ?_)
        · replace h := it hc h
          exact a_less (lle_same (lle_same (lle_same (lle_same lle_nil)))) (hk1331_5 _ h)
        · replace h := ie hc h
          refine a_iconst C eL_law_380 (0 : Int32) c_iconst_0 ?_
          exact rt_L R eL_law_381 h
      replace h := ie hs_44 h
      by_cases hs_50 : w_7 = (6 : Int32)
      · replace h := it hs_50 h
        refine a_tsw C eL_law_33 (6 : Int32) hs_50 (by decide) (by decide) rfl (tgt := 382) rfl ?_
        refine a_aload_n C eL_law_382 rfl ?_
        refine a_aload_n C eL_law_383 rfl ?_
        refine a_iload_n C eL_law_384 rfl ?_
        refine a_iconst C eL_law_385 (1 : Int32) c_iconst_1 ?_
        refine a_iadd C eL_law_386 ?_
        obtain ⟨hb_45, h⟩ := gd h
        refine a_sld C eL_law_387 hX hb_45 ?_
        refine a_aload_n C eL_law_388 rfl ?_
        refine a_iload_n C eL_law_389 rfl ?_
        refine a_iconst C eL_law_390 (2 : Int32) c_iconst_2 ?_
        refine a_iadd C eL_law_391 ?_
        obtain ⟨hb_46, h⟩ := gd h
        refine a_sld C eL_law_392 hX hb_46 ?_
        obtain ⟨r_47, hq, h⟩ := b1_e h
        refine a_dVi2 C eL_law_393 wL_41 ⟨Nat.le_of_ble_eq_true rfl, Nat.le_of_ble_eq_true rfl, rfl, rfl⟩ ⟨Nat.le_refl _, Nat.le_refl _⟩ rfl sh_0 rfl (kX9_load hq) (Nat.le_of_ble_eq_true rfl) ?_
        refine a_aload_n C eL_law_396 rfl ?_
        refine a_aload_n C eL_law_397 rfl ?_
        refine a_iload_n C eL_law_398 rfl ?_
        refine a_iconst C eL_law_399 (1 : Int32) c_iconst_1 ?_
        refine a_iadd C eL_law_400 ?_
        refine a_sld C eL_law_401 hX hb_45 ?_
        refine a_aload_n C eL_law_402 rfl ?_
        refine a_iload_n C eL_law_403 rfl ?_
        refine a_iconst C eL_law_404 (2 : Int32) c_iconst_2 ?_
        refine a_iadd C eL_law_405 ?_
        refine a_sld C eL_law_406 hX hb_46 ?_
        obtain ⟨r_48, σ_49, hq, h⟩ := b2_e h
        refine a_dVi2 C eL_law_407 wL_44 ⟨Nat.le_of_ble_eq_true rfl, Nat.le_of_ble_eq_true rfl, rfl, rfl⟩ ⟨Nat.le_refl _, Nat.le_refl _⟩ rfl sh_64 rfl (kX10_load hq) (Nat.le_of_ble_eq_true rfl) ?_
        refine a_icmp_eq C eL_law_410 (fun hc => ?_) (fun hc => ?_)
        · replace h := it hc h
          exact a_less (lle_same (lle_same (lle_same (lle_same lle_nil)))) (hk1331_5 _ h)
        · replace h := ie hc h
          refine a_iconst C eL_law_413 (0 : Int32) c_iconst_0 ?_
          exact rt_L R eL_law_414 h
      replace h := ie hs_50 h
      by_cases hs_56 : w_7 = (7 : Int32)
      · replace h := it hs_56 h
        refine a_tsw C eL_law_33 (7 : Int32) hs_56 (by decide) (by decide) rfl (tgt := 415) rfl ?_
        refine a_aload_n C eL_law_415 rfl ?_
        refine a_aload_n C eL_law_416 rfl ?_
        refine a_iload_n C eL_law_417 rfl ?_
        refine a_iconst C eL_law_418 (1 : Int32) c_iconst_1 ?_
        refine a_iadd C eL_law_419 ?_
        obtain ⟨hb_51, h⟩ := gd h
        refine a_sld C eL_law_420 hX hb_51 ?_
        refine a_aload_n C eL_law_421 rfl ?_
        refine a_iload_n C eL_law_422 rfl ?_
        refine a_iconst C eL_law_423 (2 : Int32) c_iconst_2 ?_
        refine a_iadd C eL_law_424 ?_
        obtain ⟨hb_52, h⟩ := gd h
        refine a_sld C eL_law_425 hX hb_52 ?_
        obtain ⟨r_53, hq, h⟩ := b1_e h
        refine a_dVi2 C eL_law_426 wL_45 ⟨Nat.le_of_ble_eq_true rfl, Nat.le_of_ble_eq_true rfl, rfl, rfl⟩ ⟨Nat.le_refl _, Nat.le_refl _⟩ rfl sh_0 rfl (kX9_stock hq) (Nat.le_of_ble_eq_true rfl) ?_
        refine a_aload_n C eL_law_429 rfl ?_
        refine a_aload_n C eL_law_430 rfl ?_
        refine a_iload_n C eL_law_431 rfl ?_
        refine a_iconst C eL_law_432 (1 : Int32) c_iconst_1 ?_
        refine a_iadd C eL_law_433 ?_
        refine a_sld C eL_law_434 hX hb_51 ?_
        refine a_aload_n C eL_law_435 rfl ?_
        refine a_iload_n C eL_law_436 rfl ?_
        refine a_iconst C eL_law_437 (2 : Int32) c_iconst_2 ?_
        refine a_iadd C eL_law_438 ?_
        refine a_sld C eL_law_439 hX hb_52 ?_
        obtain ⟨r_54, σ_55, hq, h⟩ := b2_e h
        refine a_dVi2 C eL_law_440 wL_48 ⟨Nat.le_of_ble_eq_true rfl, Nat.le_of_ble_eq_true rfl, rfl, rfl⟩ ⟨Nat.le_refl _, Nat.le_refl _⟩ rfl sh_64 rfl (kX10_stock hq) (Nat.le_of_ble_eq_true rfl) ?_
        refine a_icmp_eq C eL_law_443 (fun hc => ?_) (fun hc => ?_)
        · replace h := it hc h
          exact a_less (lle_same (lle_same (lle_same (lle_same lle_nil)))) (hk1331_5 _ h)
        · replace h := ie hc h
          refine a_iconst C eL_law_446 (0 : Int32) c_iconst_0 ?_
          exact rt_L R eL_law_447 h
      replace h := ie hs_56 h
      by_cases hs_62 : w_7 = (8 : Int32)
      · replace h := it hs_62 h
        refine a_tsw C eL_law_33 (8 : Int32) hs_62 (by decide) (by decide) rfl (tgt := 448) rfl ?_
        refine a_aload_n C eL_law_448 rfl ?_
        refine a_aload_n C eL_law_449 rfl ?_
        refine a_iload_n C eL_law_450 rfl ?_
        refine a_iconst C eL_law_451 (1 : Int32) c_iconst_1 ?_
        refine a_iadd C eL_law_452 ?_
        obtain ⟨hb_57, h⟩ := gd h
        refine a_sld C eL_law_453 hX hb_57 ?_
        refine a_aload_n C eL_law_454 rfl ?_
        refine a_iload_n C eL_law_455 rfl ?_
        refine a_iconst C eL_law_456 (2 : Int32) c_iconst_2 ?_
        refine a_iadd C eL_law_457 ?_
        obtain ⟨hb_58, h⟩ := gd h
        refine a_sld C eL_law_458 hX hb_58 ?_
        obtain ⟨r_59, hq, h⟩ := b1_e h
        refine a_dVi2 C eL_law_459 wL_49 ⟨Nat.le_of_ble_eq_true rfl, Nat.le_of_ble_eq_true rfl, rfl, rfl⟩ ⟨Nat.le_refl _, Nat.le_refl _⟩ rfl sh_0 rfl (kX9_lost hq) (Nat.le_of_ble_eq_true rfl) ?_
        refine a_aload_n C eL_law_462 rfl ?_
        refine a_aload_n C eL_law_463 rfl ?_
        refine a_iload_n C eL_law_464 rfl ?_
        refine a_iconst C eL_law_465 (1 : Int32) c_iconst_1 ?_
        refine a_iadd C eL_law_466 ?_
        refine a_sld C eL_law_467 hX hb_57 ?_
        refine a_aload_n C eL_law_468 rfl ?_
        refine a_iload_n C eL_law_469 rfl ?_
        refine a_iconst C eL_law_470 (2 : Int32) c_iconst_2 ?_
        refine a_iadd C eL_law_471 ?_
        refine a_sld C eL_law_472 hX hb_58 ?_
        obtain ⟨r_60, σ_61, hq, h⟩ := b2_e h
        refine a_dVi2 C eL_law_473 wL_52 ⟨Nat.le_of_ble_eq_true rfl, Nat.le_of_ble_eq_true rfl, rfl, rfl⟩ ⟨Nat.le_refl _, Nat.le_refl _⟩ rfl sh_64 rfl (kX10_lost hq) (Nat.le_of_ble_eq_true rfl) ?_
        refine a_icmp_eq C eL_law_476 (fun hc => ?_) (fun hc => ?_)
        · replace h := it hc h
          exact a_less (lle_same (lle_same (lle_same (lle_same lle_nil)))) (hk1331_5 _ h)
        · replace h := ie hc h
          refine a_iconst C eL_law_479 (0 : Int32) c_iconst_0 ?_
          exact rt_L R eL_law_480 h
      replace h := ie hs_62 h
      by_cases hs_68 : w_7 = (9 : Int32)
      · replace h := it hs_68 h
        refine a_tsw C eL_law_33 (9 : Int32) hs_68 (by decide) (by decide) rfl (tgt := 481) rfl ?_
        refine a_aload_n C eL_law_481 rfl ?_
        refine a_aload_n C eL_law_482 rfl ?_
        refine a_iload_n C eL_law_483 rfl ?_
        refine a_iconst C eL_law_484 (1 : Int32) c_iconst_1 ?_
        refine a_iadd C eL_law_485 ?_
        obtain ⟨hb_63, h⟩ := gd h
        refine a_sld C eL_law_486 hX hb_63 ?_
        refine a_aload_n C eL_law_487 rfl ?_
        refine a_iload_n C eL_law_488 rfl ?_
        refine a_iconst C eL_law_489 (2 : Int32) c_iconst_2 ?_
        refine a_iadd C eL_law_490 ?_
        obtain ⟨hb_64, h⟩ := gd h
        refine a_sld C eL_law_491 hX hb_64 ?_
        obtain ⟨r_65, hq, h⟩ := b1_e h
        refine a_dVi2 C eL_law_492 wL_53 ⟨Nat.le_of_ble_eq_true rfl, Nat.le_of_ble_eq_true rfl, rfl, rfl⟩ ⟨Nat.le_refl _, Nat.le_refl _⟩ rfl sh_0 rfl (kX9_of hq) (Nat.le_of_ble_eq_true rfl) ?_
        refine a_aload_n C eL_law_495 rfl ?_
        refine a_aload_n C eL_law_496 rfl ?_
        refine a_iload_n C eL_law_497 rfl ?_
        refine a_iconst C eL_law_498 (1 : Int32) c_iconst_1 ?_
        refine a_iadd C eL_law_499 ?_
        refine a_sld C eL_law_500 hX hb_63 ?_
        refine a_aload_n C eL_law_501 rfl ?_
        refine a_iload_n C eL_law_502 rfl ?_
        refine a_iconst C eL_law_503 (2 : Int32) c_iconst_2 ?_
        refine a_iadd C eL_law_504 ?_
        refine a_sld C eL_law_505 hX hb_64 ?_
        obtain ⟨r_66, σ_67, hq, h⟩ := b2_e h
        refine a_dVi2 C eL_law_506 wL_56 ⟨Nat.le_of_ble_eq_true rfl, Nat.le_of_ble_eq_true rfl, rfl, rfl⟩ ⟨Nat.le_refl _, Nat.le_refl _⟩ rfl sh_64 rfl (kX10_of hq) (Nat.le_of_ble_eq_true rfl) ?_
        refine a_icmp_eq C eL_law_509 (fun hc => ?_) (fun hc => ?_)
        · replace h := it hc h
          exact a_less (lle_same (lle_same (lle_same (lle_same lle_nil)))) (hk1331_5 _ h)
        · replace h := ie hc h
          refine a_iconst C eL_law_512 (0 : Int32) c_iconst_0 ?_
          exact rt_L R eL_law_513 h
      replace h := ie hs_68 h
      by_cases hs_73 : w_7 = (10 : Int32)
      · replace h := it hs_73 h
        refine a_tsw C eL_law_33 (10 : Int32) hs_73 (by decide) (by decide) rfl (tgt := 514) rfl ?_
        refine a_aload_n C eL_law_514 rfl ?_
        refine a_aload_n C eL_law_515 rfl ?_
        refine a_iload_n C eL_law_516 rfl ?_
        refine a_iconst C eL_law_517 (1 : Int32) c_iconst_1 ?_
        refine a_iadd C eL_law_518 ?_
        obtain ⟨hb_69, h⟩ := gd h
        refine a_sld C eL_law_519 hX hb_69 ?_
        obtain ⟨r_70, hq, h⟩ := b1_e h
        refine a_dVi1 C eL_law_520 wL_57 ⟨Nat.le_of_ble_eq_true rfl, Nat.le_of_ble_eq_true rfl, rfl, rfl⟩ ⟨Nat.le_refl _, Nat.le_refl _⟩ rfl sh_0 rfl (kX9_empty hq) (Nat.le_of_ble_eq_true rfl) ?_
        refine a_aload_n C eL_law_523 rfl ?_
        refine a_aload_n C eL_law_524 rfl ?_
        refine a_iload_n C eL_law_525 rfl ?_
        refine a_iconst C eL_law_526 (1 : Int32) c_iconst_1 ?_
        refine a_iadd C eL_law_527 ?_
        refine a_sld C eL_law_528 hX hb_69 ?_
        obtain ⟨r_71, σ_72, hq, h⟩ := b2_e h
        refine a_dVi1 C eL_law_529 wL_60 ⟨Nat.le_of_ble_eq_true rfl, Nat.le_of_ble_eq_true rfl, rfl, rfl⟩ ⟨Nat.le_refl _, Nat.le_refl _⟩ rfl sh_64 rfl (kX10_empty hq) (Nat.le_of_ble_eq_true rfl) ?_
        refine a_icmp_eq C eL_law_532 (fun hc => ?_) (fun hc => ?_)
        · replace h := it hc h
          exact a_less (lle_same (lle_same (lle_same (lle_same lle_nil)))) (hk1331_5 _ h)
        · replace h := ie hc h
          refine a_iconst C eL_law_535 (0 : Int32) c_iconst_0 ?_
          exact rt_L R eL_law_536 h
      replace h := ie hs_73 h
      by_cases hs_79 : w_7 = (11 : Int32)
      · replace h := it hs_79 h
        refine a_tsw C eL_law_33 (11 : Int32) hs_79 (by decide) (by decide) rfl (tgt := 537) rfl ?_
        refine a_aload_n C eL_law_537 rfl ?_
        refine a_aload_n C eL_law_538 rfl ?_
        refine a_iload_n C eL_law_539 rfl ?_
        refine a_iconst C eL_law_540 (1 : Int32) c_iconst_1 ?_
        refine a_iadd C eL_law_541 ?_
        obtain ⟨hb_74, h⟩ := gd h
        refine a_sld C eL_law_542 hX hb_74 ?_
        refine a_aload_n C eL_law_543 rfl ?_
        refine a_iload_n C eL_law_544 rfl ?_
        refine a_iconst C eL_law_545 (2 : Int32) c_iconst_2 ?_
        refine a_iadd C eL_law_546 ?_
        obtain ⟨hb_75, h⟩ := gd h
        refine a_sld C eL_law_547 hX hb_75 ?_
        obtain ⟨r_76, hq, h⟩ := b1_e h
        refine a_dVi2 C eL_law_548 wL_61 ⟨Nat.le_of_ble_eq_true rfl, Nat.le_of_ble_eq_true rfl, rfl, rfl⟩ ⟨Nat.le_refl _, Nat.le_refl _⟩ rfl sh_0 rfl (kX9_bears hq) (Nat.le_of_ble_eq_true rfl) ?_
        refine a_aload_n C eL_law_551 rfl ?_
        refine a_aload_n C eL_law_552 rfl ?_
        refine a_iload_n C eL_law_553 rfl ?_
        refine a_iconst C eL_law_554 (1 : Int32) c_iconst_1 ?_
        refine a_iadd C eL_law_555 ?_
        refine a_sld C eL_law_556 hX hb_74 ?_
        refine a_aload_n C eL_law_557 rfl ?_
        refine a_iload_n C eL_law_558 rfl ?_
        refine a_iconst C eL_law_559 (2 : Int32) c_iconst_2 ?_
        refine a_iadd C eL_law_560 ?_
        refine a_sld C eL_law_561 hX hb_75 ?_
        obtain ⟨r_77, σ_78, hq, h⟩ := b2_e h
        refine a_dVi2 C eL_law_562 wL_64 ⟨Nat.le_of_ble_eq_true rfl, Nat.le_of_ble_eq_true rfl, rfl, rfl⟩ ⟨Nat.le_refl _, Nat.le_refl _⟩ rfl sh_64 rfl (kX10_bears hq) (Nat.le_of_ble_eq_true rfl) ?_
        refine a_icmp_eq C eL_law_565 (fun hc => ?_) (fun hc => ?_)
        · replace h := it hc h
          exact a_less (lle_same (lle_same (lle_same (lle_same lle_nil)))) (hk1331_5 _ h)
        · replace h := ie hc h
          refine a_iconst C eL_law_568 (0 : Int32) c_iconst_0 ?_
          exact rt_L R eL_law_569 h
      replace h := ie hs_79 h
      by_cases hs_85 : w_7 = (12 : Int32)
      · replace h := it hs_85 h
        refine a_tsw C eL_law_33 (12 : Int32) hs_85 (by decide) (by decide) rfl (tgt := 570) rfl ?_
        refine a_aload_n C eL_law_570 rfl ?_
        refine a_aload_n C eL_law_571 rfl ?_
        refine a_iload_n C eL_law_572 rfl ?_
        refine a_iconst C eL_law_573 (1 : Int32) c_iconst_1 ?_
        refine a_iadd C eL_law_574 ?_
        obtain ⟨hb_80, h⟩ := gd h
        refine a_sld C eL_law_575 hX hb_80 ?_
        refine a_aload_n C eL_law_576 rfl ?_
        refine a_iload_n C eL_law_577 rfl ?_
        refine a_iconst C eL_law_578 (2 : Int32) c_iconst_2 ?_
        refine a_iadd C eL_law_579 ?_
        obtain ⟨hb_81, h⟩ := gd h
        refine a_sld C eL_law_580 hX hb_81 ?_
        obtain ⟨r_82, hq, h⟩ := b1_e h
        refine a_dVi2 C eL_law_581 wL_65 ⟨Nat.le_of_ble_eq_true rfl, Nat.le_of_ble_eq_true rfl, rfl, rfl⟩ ⟨Nat.le_refl _, Nat.le_refl _⟩ rfl sh_0 rfl (kX9_waits hq) (Nat.le_of_ble_eq_true rfl) ?_
        refine a_aload_n C eL_law_584 rfl ?_
        refine a_aload_n C eL_law_585 rfl ?_
        refine a_iload_n C eL_law_586 rfl ?_
        refine a_iconst C eL_law_587 (1 : Int32) c_iconst_1 ?_
        refine a_iadd C eL_law_588 ?_
        refine a_sld C eL_law_589 hX hb_80 ?_
        refine a_aload_n C eL_law_590 rfl ?_
        refine a_iload_n C eL_law_591 rfl ?_
        refine a_iconst C eL_law_592 (2 : Int32) c_iconst_2 ?_
        refine a_iadd C eL_law_593 ?_
        refine a_sld C eL_law_594 hX hb_81 ?_
        obtain ⟨r_83, σ_84, hq, h⟩ := b2_e h
        refine a_dVi2 C eL_law_595 wL_68 ⟨Nat.le_of_ble_eq_true rfl, Nat.le_of_ble_eq_true rfl, rfl, rfl⟩ ⟨Nat.le_refl _, Nat.le_refl _⟩ rfl sh_64 rfl (kX10_waits hq) (Nat.le_of_ble_eq_true rfl) ?_
        refine a_icmp_eq C eL_law_598 (fun hc => ?_) (fun hc => ?_)
        · replace h := it hc h
          exact a_less (lle_same (lle_same (lle_same (lle_same lle_nil)))) (hk1331_5 _ h)
        · replace h := ie hc h
          refine a_iconst C eL_law_601 (0 : Int32) c_iconst_0 ?_
          exact rt_L R eL_law_602 h
      replace h := ie hs_85 h
      by_cases hs_93 : w_7 = (13 : Int32)
      · replace h := it hs_93 h
        refine a_tsw C eL_law_33 (13 : Int32) hs_93 (by decide) (by decide) rfl (tgt := 603) rfl ?_
        refine a_aload_n C eL_law_603 rfl ?_
        refine a_aload_n C eL_law_604 rfl ?_
        refine a_iload_n C eL_law_605 rfl ?_
        refine a_iconst C eL_law_606 (1 : Int32) c_iconst_1 ?_
        refine a_iadd C eL_law_607 ?_
        obtain ⟨hb_86, h⟩ := gd h
        refine a_sld C eL_law_608 hX hb_86 ?_
        refine a_aload_n C eL_law_609 rfl ?_
        refine a_iload_n C eL_law_610 rfl ?_
        refine a_iconst C eL_law_611 (2 : Int32) c_iconst_2 ?_
        refine a_iadd C eL_law_612 ?_
        obtain ⟨hb_87, h⟩ := gd h
        refine a_sld C eL_law_613 hX hb_87 ?_
        refine a_aload_n C eL_law_614 rfl ?_
        refine a_iload_n C eL_law_615 rfl ?_
        refine a_iconst C eL_law_616 (3 : Int32) c_iconst_3 ?_
        refine a_iadd C eL_law_617 ?_
        obtain ⟨hb_88, h⟩ := gd h
        refine a_sld C eL_law_618 hX hb_88 ?_
        refine a_aload_n C eL_law_619 rfl ?_
        refine a_iload_n C eL_law_620 rfl ?_
        refine a_iconst C eL_law_621 (4 : Int32) c_iconst_4 ?_
        refine a_iadd C eL_law_622 ?_
        obtain ⟨hb_89, h⟩ := gd h
        refine a_sld C eL_law_623 hX hb_89 ?_
        obtain ⟨r_90, hq, h⟩ := b1_e h
        refine a_dVi4 C eL_law_624 wL_69 ⟨Nat.le_of_ble_eq_true rfl, Nat.le_of_ble_eq_true rfl, rfl, rfl⟩ ⟨Nat.le_refl _, Nat.le_refl _⟩ rfl sh_0 rfl (kX9_chance hq) (Nat.le_of_ble_eq_true rfl) ?_
        refine a_aload_n C eL_law_627 rfl ?_
        refine a_aload_n C eL_law_628 rfl ?_
        refine a_iload_n C eL_law_629 rfl ?_
        refine a_iconst C eL_law_630 (1 : Int32) c_iconst_1 ?_
        refine a_iadd C eL_law_631 ?_
        refine a_sld C eL_law_632 hX hb_86 ?_
        refine a_aload_n C eL_law_633 rfl ?_
        refine a_iload_n C eL_law_634 rfl ?_
        refine a_iconst C eL_law_635 (2 : Int32) c_iconst_2 ?_
        refine a_iadd C eL_law_636 ?_
        refine a_sld C eL_law_637 hX hb_87 ?_
        refine a_aload_n C eL_law_638 rfl ?_
        refine a_iload_n C eL_law_639 rfl ?_
        refine a_iconst C eL_law_640 (3 : Int32) c_iconst_3 ?_
        refine a_iadd C eL_law_641 ?_
        refine a_sld C eL_law_642 hX hb_88 ?_
        refine a_aload_n C eL_law_643 rfl ?_
        refine a_iload_n C eL_law_644 rfl ?_
        refine a_iconst C eL_law_645 (4 : Int32) c_iconst_4 ?_
        refine a_iadd C eL_law_646 ?_
        refine a_sld C eL_law_647 hX hb_89 ?_
        obtain ⟨r_91, σ_92, hq, h⟩ := b2_e h
        refine a_dVi4 C eL_law_648 wL_73 ⟨Nat.le_of_ble_eq_true rfl, Nat.le_of_ble_eq_true rfl, rfl, rfl⟩ ⟨Nat.le_refl _, Nat.le_refl _⟩ rfl sh_64 rfl (kX10_chance hq) (Nat.le_of_ble_eq_true rfl) ?_
        refine a_icmp_eq C eL_law_651 (fun hc => ?_) (fun hc => ?_)
        · replace h := it hc h
          exact a_less (lle_same (lle_same (lle_same (lle_same lle_nil)))) (hk1331_5 _ h)
        · replace h := ie hc h
          refine a_iconst C eL_law_654 (0 : Int32) c_iconst_0 ?_
          exact rt_L R eL_law_655 h
      replace h := ie hs_93 h
      by_cases hs_99 : w_7 = (14 : Int32)
      · replace h := it hs_99 h
        refine a_tsw C eL_law_33 (14 : Int32) hs_99 (by decide) (by decide) rfl (tgt := 656) rfl ?_
        refine a_aload_n C eL_law_656 rfl ?_
        refine a_aload_n C eL_law_657 rfl ?_
        refine a_iload_n C eL_law_658 rfl ?_
        refine a_iconst C eL_law_659 (1 : Int32) c_iconst_1 ?_
        refine a_iadd C eL_law_660 ?_
        obtain ⟨hb_94, h⟩ := gd h
        refine a_sld C eL_law_661 hX hb_94 ?_
        obtain ⟨r_95, σ_96, hq, h⟩ := b2_e h
        refine a_dVi1 C eL_law_662 wL_74 ⟨Nat.le_of_ble_eq_true rfl, Nat.le_of_ble_eq_true rfl, rfl, rfl⟩ ⟨Nat.le_refl _, Nat.le_refl _⟩ rfl sh_0 rfl (kX9_rounds hq) (Nat.le_of_ble_eq_true rfl) ?_
        refine a_aload_n C eL_law_665 rfl ?_
        refine a_aload_n C eL_law_666 rfl ?_
        refine a_iload_n C eL_law_667 rfl ?_
        refine a_iconst C eL_law_668 (1 : Int32) c_iconst_1 ?_
        refine a_iadd C eL_law_669 ?_
        refine a_sld C eL_law_670 hX hb_94 ?_
        obtain ⟨r_97, σ_98, hq, h⟩ := b2_e h
        refine a_dVi1 C eL_law_671 wL_77 ⟨Nat.le_of_ble_eq_true rfl, Nat.le_of_ble_eq_true rfl, rfl, rfl⟩ ⟨Nat.le_refl _, Nat.le_refl _⟩ rfl sh_64 rfl (kX10_rounds hq) (Nat.le_of_ble_eq_true rfl) ?_
        refine a_icmp_eq C eL_law_674 (fun hc => ?_) (fun hc => ?_)
        · replace h := it hc h
          exact a_less (lle_same (lle_same (lle_same (lle_same lle_nil)))) (hk1331_5 _ h)
        · replace h := ie hc h
          refine a_iconst C eL_law_677 (0 : Int32) c_iconst_0 ?_
          exact rt_L R eL_law_678 h
      replace h := ie hs_99 h
      by_cases hs_107 : w_7 = (15 : Int32)
      · replace h := it hs_107 h
        refine a_tsw C eL_law_33 (15 : Int32) hs_107 (by decide) (by decide) rfl (tgt := 679) rfl ?_
        refine a_aload_n C eL_law_679 rfl ?_
        refine a_aload_n C eL_law_680 rfl ?_
        refine a_iload_n C eL_law_681 rfl ?_
        refine a_iconst C eL_law_682 (1 : Int32) c_iconst_1 ?_
        refine a_iadd C eL_law_683 ?_
        obtain ⟨hb_100, h⟩ := gd h
        refine a_sld C eL_law_684 hX hb_100 ?_
        refine a_aload_n C eL_law_685 rfl ?_
        refine a_iload_n C eL_law_686 rfl ?_
        refine a_iconst C eL_law_687 (2 : Int32) c_iconst_2 ?_
        refine a_iadd C eL_law_688 ?_
        obtain ⟨hb_101, h⟩ := gd h
        refine a_sld C eL_law_689 hX hb_101 ?_
        refine a_aload_n C eL_law_690 rfl ?_
        refine a_iload_n C eL_law_691 rfl ?_
        refine a_iconst C eL_law_692 (3 : Int32) c_iconst_3 ?_
        refine a_iadd C eL_law_693 ?_
        obtain ⟨hb_102, h⟩ := gd h
        refine a_sld C eL_law_694 hX hb_102 ?_
        obtain ⟨r_103, σ_104, hq, h⟩ := b2_e h
        refine a_dVi3 C eL_law_695 wL_78 ⟨Nat.le_of_ble_eq_true rfl, Nat.le_of_ble_eq_true rfl, rfl, rfl⟩ ⟨Nat.le_refl _, Nat.le_refl _⟩ rfl sh_0 rfl (kX9_round hq) (Nat.le_of_ble_eq_true rfl) ?_
        refine a_aload_n C eL_law_698 rfl ?_
        refine a_aload_n C eL_law_699 rfl ?_
        refine a_iload_n C eL_law_700 rfl ?_
        refine a_iconst C eL_law_701 (1 : Int32) c_iconst_1 ?_
        refine a_iadd C eL_law_702 ?_
        refine a_sld C eL_law_703 hX hb_100 ?_
        refine a_aload_n C eL_law_704 rfl ?_
        refine a_iload_n C eL_law_705 rfl ?_
        refine a_iconst C eL_law_706 (2 : Int32) c_iconst_2 ?_
        refine a_iadd C eL_law_707 ?_
        refine a_sld C eL_law_708 hX hb_101 ?_
        refine a_aload_n C eL_law_709 rfl ?_
        refine a_iload_n C eL_law_710 rfl ?_
        refine a_iconst C eL_law_711 (3 : Int32) c_iconst_3 ?_
        refine a_iadd C eL_law_712 ?_
        refine a_sld C eL_law_713 hX hb_102 ?_
        obtain ⟨r_105, σ_106, hq, h⟩ := b2_e h
        refine a_dVi3 C eL_law_714 wL_82 ⟨Nat.le_of_ble_eq_true rfl, Nat.le_of_ble_eq_true rfl, rfl, rfl⟩ ⟨Nat.le_refl _, Nat.le_refl _⟩ rfl sh_64 rfl (kX10_round hq) (Nat.le_of_ble_eq_true rfl) ?_
        refine a_icmp_eq C eL_law_717 (fun hc => ?_) (fun hc => ?_)
        · replace h := it hc h
          exact a_less (lle_same (lle_same (lle_same (lle_same lle_nil)))) (hk1331_5 _ h)
        · replace h := ie hc h
          refine a_iconst C eL_law_720 (0 : Int32) c_iconst_0 ?_
          exact rt_L R eL_law_721 h
      replace h := ie hs_107 h
      by_cases hs_115 : w_7 = (16 : Int32)
      · replace h := it hs_115 h
        refine a_tsw C eL_law_33 (16 : Int32) hs_115 (by decide) (by decide) rfl (tgt := 722) rfl ?_
        refine a_aload_n C eL_law_722 rfl ?_
        refine a_aload_n C eL_law_723 rfl ?_
        refine a_iload_n C eL_law_724 rfl ?_
        refine a_iconst C eL_law_725 (1 : Int32) c_iconst_1 ?_
        refine a_iadd C eL_law_726 ?_
        obtain ⟨hb_108, h⟩ := gd h
        refine a_sld C eL_law_727 hX hb_108 ?_
        refine a_aload_n C eL_law_728 rfl ?_
        refine a_iload_n C eL_law_729 rfl ?_
        refine a_iconst C eL_law_730 (2 : Int32) c_iconst_2 ?_
        refine a_iadd C eL_law_731 ?_
        obtain ⟨hb_109, h⟩ := gd h
        refine a_sld C eL_law_732 hX hb_109 ?_
        refine a_aload_n C eL_law_733 rfl ?_
        refine a_iload_n C eL_law_734 rfl ?_
        refine a_iconst C eL_law_735 (3 : Int32) c_iconst_3 ?_
        refine a_iadd C eL_law_736 ?_
        obtain ⟨hb_110, h⟩ := gd h
        refine a_sld C eL_law_737 hX hb_110 ?_
        obtain ⟨r_111, σ_112, hq, h⟩ := b2_e h
        refine a_dVi3 C eL_law_738 wL_83 ⟨Nat.le_of_ble_eq_true rfl, Nat.le_of_ble_eq_true rfl, rfl, rfl⟩ ⟨Nat.le_refl _, Nat.le_refl _⟩ rfl sh_0 rfl (kX9_aboard hq) (Nat.le_of_ble_eq_true rfl) ?_
        refine a_aload_n C eL_law_741 rfl ?_
        refine a_aload_n C eL_law_742 rfl ?_
        refine a_iload_n C eL_law_743 rfl ?_
        refine a_iconst C eL_law_744 (1 : Int32) c_iconst_1 ?_
        refine a_iadd C eL_law_745 ?_
        refine a_sld C eL_law_746 hX hb_108 ?_
        refine a_aload_n C eL_law_747 rfl ?_
        refine a_iload_n C eL_law_748 rfl ?_
        refine a_iconst C eL_law_749 (2 : Int32) c_iconst_2 ?_
        refine a_iadd C eL_law_750 ?_
        refine a_sld C eL_law_751 hX hb_109 ?_
        refine a_aload_n C eL_law_752 rfl ?_
        refine a_iload_n C eL_law_753 rfl ?_
        refine a_iconst C eL_law_754 (3 : Int32) c_iconst_3 ?_
        refine a_iadd C eL_law_755 ?_
        refine a_sld C eL_law_756 hX hb_110 ?_
        obtain ⟨r_113, σ_114, hq, h⟩ := b2_e h
        refine a_dVi3 C eL_law_757 wL_86 ⟨Nat.le_of_ble_eq_true rfl, Nat.le_of_ble_eq_true rfl, rfl, rfl⟩ ⟨Nat.le_refl _, Nat.le_refl _⟩ rfl sh_64 rfl (kX10_aboard hq) (Nat.le_of_ble_eq_true rfl) ?_
        refine a_icmp_eq C eL_law_760 (fun hc => ?_) (fun hc => ?_)
        · replace h := it hc h
          exact a_less (lle_same (lle_same (lle_same (lle_same lle_nil)))) (hk1331_5 _ h)
        · replace h := ie hc h
          refine a_iconst C eL_law_763 (0 : Int32) c_iconst_0 ?_
          exact rt_L R eL_law_764 h
      replace h := ie hs_115 h
      by_cases hs_120 : w_7 = (17 : Int32)
      · replace h := it hs_120 h
        refine a_tsw C eL_law_33 (17 : Int32) hs_120 (by decide) (by decide) rfl (tgt := 765) rfl ?_
        refine a_aload_n C eL_law_765 rfl ?_
        refine a_aload_n C eL_law_766 rfl ?_
        refine a_iload_n C eL_law_767 rfl ?_
        refine a_iconst C eL_law_768 (1 : Int32) c_iconst_1 ?_
        refine a_iadd C eL_law_769 ?_
        obtain ⟨hb_116, h⟩ := gd h
        refine a_sld C eL_law_770 hX hb_116 ?_
        obtain ⟨r_117, hq, h⟩ := b1_e h
        refine a_dVi1 C eL_law_771 wL_87 ⟨Nat.le_of_ble_eq_true rfl, Nat.le_of_ble_eq_true rfl, rfl, rfl⟩ ⟨Nat.le_refl _, Nat.le_refl _⟩ rfl sh_0 rfl (kX9_miles hq) (Nat.le_of_ble_eq_true rfl) ?_
        refine a_aload_n C eL_law_774 rfl ?_
        refine a_aload_n C eL_law_775 rfl ?_
        refine a_iload_n C eL_law_776 rfl ?_
        refine a_iconst C eL_law_777 (1 : Int32) c_iconst_1 ?_
        refine a_iadd C eL_law_778 ?_
        refine a_sld C eL_law_779 hX hb_116 ?_
        obtain ⟨r_118, σ_119, hq, h⟩ := b2_e h
        refine a_dVi1 C eL_law_780 wL_90 ⟨Nat.le_of_ble_eq_true rfl, Nat.le_of_ble_eq_true rfl, rfl, rfl⟩ ⟨Nat.le_refl _, Nat.le_refl _⟩ rfl sh_64 rfl (kX10_miles hq) (Nat.le_of_ble_eq_true rfl) ?_
        refine a_icmp_eq C eL_law_783 (fun hc => ?_) (fun hc => ?_)
        · replace h := it hc h
          exact a_less (lle_same (lle_same (lle_same (lle_same lle_nil)))) (hk1331_5 _ h)
        · replace h := ie hc h
          refine a_iconst C eL_law_786 (0 : Int32) c_iconst_0 ?_
          exact rt_L R eL_law_787 h
      replace h := ie hs_120 h
      by_cases hs_126 : w_7 = (18 : Int32)
      · replace h := it hs_126 h
        refine a_tsw C eL_law_33 (18 : Int32) hs_126 (by decide) (by decide) rfl (tgt := 788) rfl ?_
        refine a_aload_n C eL_law_788 rfl ?_
        refine a_aload_n C eL_law_789 rfl ?_
        refine a_iload_n C eL_law_790 rfl ?_
        refine a_iconst C eL_law_791 (1 : Int32) c_iconst_1 ?_
        refine a_iadd C eL_law_792 ?_
        obtain ⟨hb_121, h⟩ := gd h
        refine a_sld C eL_law_793 hX hb_121 ?_
        refine a_aload_n C eL_law_794 rfl ?_
        refine a_iload_n C eL_law_795 rfl ?_
        refine a_iconst C eL_law_796 (2 : Int32) c_iconst_2 ?_
        refine a_iadd C eL_law_797 ?_
        obtain ⟨hb_122, h⟩ := gd h
        refine a_sld C eL_law_798 hX hb_122 ?_
        obtain ⟨r_123, hq, h⟩ := b1_e h
        refine a_dVi2 C eL_law_799 wL_91 ⟨Nat.le_of_ble_eq_true rfl, Nat.le_of_ble_eq_true rfl, rfl, rfl⟩ ⟨Nat.le_refl _, Nat.le_refl _⟩ rfl sh_0 rfl (kX9_together hq) (Nat.le_of_ble_eq_true rfl) ?_
        refine a_aload_n C eL_law_802 rfl ?_
        refine a_aload_n C eL_law_803 rfl ?_
        refine a_iload_n C eL_law_804 rfl ?_
        refine a_iconst C eL_law_805 (1 : Int32) c_iconst_1 ?_
        refine a_iadd C eL_law_806 ?_
        refine a_sld C eL_law_807 hX hb_121 ?_
        refine a_aload_n C eL_law_808 rfl ?_
        refine a_iload_n C eL_law_809 rfl ?_
        refine a_iconst C eL_law_810 (2 : Int32) c_iconst_2 ?_
        refine a_iadd C eL_law_811 ?_
        refine a_sld C eL_law_812 hX hb_122 ?_
        obtain ⟨r_124, σ_125, hq, h⟩ := b2_e h
        refine a_dVi2 C eL_law_813 wL_94 ⟨Nat.le_of_ble_eq_true rfl, Nat.le_of_ble_eq_true rfl, rfl, rfl⟩ ⟨Nat.le_refl _, Nat.le_refl _⟩ rfl sh_64 rfl (kX10_together hq) (Nat.le_of_ble_eq_true rfl) ?_
        refine a_icmp_eq C eL_law_816 (fun hc => ?_) (fun hc => ?_)
        · replace h := it hc h
          exact a_less (lle_same (lle_same (lle_same (lle_same lle_nil)))) (hk1331_5 _ h)
        · replace h := ie hc h
          refine a_iconst C eL_law_819 (0 : Int32) c_iconst_0 ?_
          exact rt_L R eL_law_820 h
      replace h := ie hs_126 h
      by_cases hs_133 : w_7 = (19 : Int32)
      · replace h := it hs_133 h
        refine a_tsw C eL_law_33 (19 : Int32) hs_133 (by decide) (by decide) rfl (tgt := 821) rfl ?_
        refine a_aload_n C eL_law_821 rfl ?_
        refine a_aload_n C eL_law_822 rfl ?_
        refine a_iload_n C eL_law_823 rfl ?_
        refine a_iconst C eL_law_824 (1 : Int32) c_iconst_1 ?_
        refine a_iadd C eL_law_825 ?_
        obtain ⟨hb_127, h⟩ := gd h
        refine a_sld C eL_law_826 hX hb_127 ?_
        refine a_aload_n C eL_law_827 rfl ?_
        refine a_iload_n C eL_law_828 rfl ?_
        refine a_iconst C eL_law_829 (2 : Int32) c_iconst_2 ?_
        refine a_iadd C eL_law_830 ?_
        obtain ⟨hb_128, h⟩ := gd h
        refine a_sld C eL_law_831 hX hb_128 ?_
        obtain ⟨r_129, σ_130, hq, h⟩ := b2_e h
        refine a_dVi2 C eL_law_832 wL_95 ⟨Nat.le_of_ble_eq_true rfl, Nat.le_of_ble_eq_true rfl, rfl, rfl⟩ ⟨Nat.le_refl _, Nat.le_refl _⟩ rfl sh_0 rfl (kX9_savings hq) (Nat.le_of_ble_eq_true rfl) ?_
        refine a_aload_n C eL_law_835 rfl ?_
        refine a_aload_n C eL_law_836 rfl ?_
        refine a_iload_n C eL_law_837 rfl ?_
        refine a_iconst C eL_law_838 (1 : Int32) c_iconst_1 ?_
        refine a_iadd C eL_law_839 ?_
        refine a_sld C eL_law_840 hX hb_127 ?_
        refine a_aload_n C eL_law_841 rfl ?_
        refine a_iload_n C eL_law_842 rfl ?_
        refine a_iconst C eL_law_843 (2 : Int32) c_iconst_2 ?_
        refine a_iadd C eL_law_844 ?_
        refine a_sld C eL_law_845 hX hb_128 ?_
        obtain ⟨r_131, σ_132, hq, h⟩ := b2_e h
        refine a_dVi2 C eL_law_846 wL_98 ⟨Nat.le_of_ble_eq_true rfl, Nat.le_of_ble_eq_true rfl, rfl, rfl⟩ ⟨Nat.le_refl _, Nat.le_refl _⟩ rfl sh_64 rfl (kX10_savings hq) (Nat.le_of_ble_eq_true rfl) ?_
        refine a_icmp_eq C eL_law_849 (fun hc => ?_) (fun hc => ?_)
        · replace h := it hc h
          exact a_less (lle_same (lle_same (lle_same (lle_same lle_nil)))) (hk1331_5 _ h)
        · replace h := ie hc h
          refine a_iconst C eL_law_852 (0 : Int32) c_iconst_0 ?_
          exact rt_L R eL_law_853 h
      replace h := ie hs_133 h
      by_cases hs_141 : w_7 = (20 : Int32)
      · replace h := it hs_141 h
        refine a_tsw C eL_law_33 (20 : Int32) hs_141 (by decide) (by decide) rfl (tgt := 854) rfl ?_
        refine a_aload_n C eL_law_854 rfl ?_
        refine a_aload_n C eL_law_855 rfl ?_
        refine a_iload_n C eL_law_856 rfl ?_
        refine a_iconst C eL_law_857 (1 : Int32) c_iconst_1 ?_
        refine a_iadd C eL_law_858 ?_
        obtain ⟨hb_134, h⟩ := gd h
        refine a_sld C eL_law_859 hX hb_134 ?_
        refine a_aload_n C eL_law_860 rfl ?_
        refine a_iload_n C eL_law_861 rfl ?_
        refine a_iconst C eL_law_862 (2 : Int32) c_iconst_2 ?_
        refine a_iadd C eL_law_863 ?_
        obtain ⟨hb_135, h⟩ := gd h
        refine a_sld C eL_law_864 hX hb_135 ?_
        refine a_aload_n C eL_law_865 rfl ?_
        refine a_iload_n C eL_law_866 rfl ?_
        refine a_iconst C eL_law_867 (3 : Int32) c_iconst_3 ?_
        refine a_iadd C eL_law_868 ?_
        obtain ⟨hb_136, h⟩ := gd h
        refine a_sld C eL_law_869 hX hb_136 ?_
        obtain ⟨r_137, σ_138, hq, h⟩ := b2_e h
        refine a_dVi3 C eL_law_870 wL_99 ⟨Nat.le_of_ble_eq_true rfl, Nat.le_of_ble_eq_true rfl, rfl, rfl⟩ ⟨Nat.le_refl _, Nat.le_refl _⟩ rfl sh_0 rfl (kX9_share hq) (Nat.le_of_ble_eq_true rfl) ?_
        refine a_aload_n C eL_law_873 rfl ?_
        refine a_aload_n C eL_law_874 rfl ?_
        refine a_iload_n C eL_law_875 rfl ?_
        refine a_iconst C eL_law_876 (1 : Int32) c_iconst_1 ?_
        refine a_iadd C eL_law_877 ?_
        refine a_sld C eL_law_878 hX hb_134 ?_
        refine a_aload_n C eL_law_879 rfl ?_
        refine a_iload_n C eL_law_880 rfl ?_
        refine a_iconst C eL_law_881 (2 : Int32) c_iconst_2 ?_
        refine a_iadd C eL_law_882 ?_
        refine a_sld C eL_law_883 hX hb_135 ?_
        refine a_aload_n C eL_law_884 rfl ?_
        refine a_iload_n C eL_law_885 rfl ?_
        refine a_iconst C eL_law_886 (3 : Int32) c_iconst_3 ?_
        refine a_iadd C eL_law_887 ?_
        refine a_sld C eL_law_888 hX hb_136 ?_
        obtain ⟨r_139, σ_140, hq, h⟩ := b2_e h
        refine a_dVi3 C eL_law_889 wL_102 ⟨Nat.le_of_ble_eq_true rfl, Nat.le_of_ble_eq_true rfl, rfl, rfl⟩ ⟨Nat.le_refl _, Nat.le_refl _⟩ rfl sh_64 rfl (kX10_share hq) (Nat.le_of_ble_eq_true rfl) ?_
        refine a_icmp_eq C eL_law_892 (fun hc => ?_) (fun hc => ?_)
        · replace h := it hc h
          exact a_less (lle_same (lle_same (lle_same (lle_same lle_nil)))) (hk1331_5 _ h)
        · replace h := ie hc h
          refine a_iconst C eL_law_895 (0 : Int32) c_iconst_0 ?_
          exact rt_L R eL_law_896 h
      replace h := ie hs_141 h
      by_cases hs_146 : w_7 = (21 : Int32)
      · replace h := it hs_146 h
        refine a_tsw C eL_law_33 (21 : Int32) hs_146 (by decide) (by decide) rfl (tgt := 897) rfl ?_
        refine a_aload_n C eL_law_897 rfl ?_
        refine a_aload_n C eL_law_898 rfl ?_
        refine a_iload_n C eL_law_899 rfl ?_
        refine a_iconst C eL_law_900 (1 : Int32) c_iconst_1 ?_
        refine a_iadd C eL_law_901 ?_
        obtain ⟨hb_142, h⟩ := gd h
        refine a_sld C eL_law_902 hX hb_142 ?_
        obtain ⟨r_143, hq, h⟩ := b1_e h
        refine a_dVi1 C eL_law_903 wL_103 ⟨Nat.le_of_ble_eq_true rfl, Nat.le_of_ble_eq_true rfl, rfl, rfl⟩ ⟨Nat.le_refl _, Nat.le_refl _⟩ rfl sh_0 rfl (kX9_peak hq) (Nat.le_of_ble_eq_true rfl) ?_
        refine a_aload_n C eL_law_906 rfl ?_
        refine a_aload_n C eL_law_907 rfl ?_
        refine a_iload_n C eL_law_908 rfl ?_
        refine a_iconst C eL_law_909 (1 : Int32) c_iconst_1 ?_
        refine a_iadd C eL_law_910 ?_
        refine a_sld C eL_law_911 hX hb_142 ?_
        obtain ⟨r_144, σ_145, hq, h⟩ := b2_e h
        refine a_dVi1 C eL_law_912 wL_106 ⟨Nat.le_of_ble_eq_true rfl, Nat.le_of_ble_eq_true rfl, rfl, rfl⟩ ⟨Nat.le_refl _, Nat.le_refl _⟩ rfl sh_64 rfl (kX10_peak hq) (Nat.le_of_ble_eq_true rfl) ?_
        refine a_icmp_eq C eL_law_915 (fun hc => ?_) (fun hc => ?_)
        · replace h := it hc h
          exact a_less (lle_same (lle_same (lle_same (lle_same lle_nil)))) (hk1331_5 _ h)
        · replace h := ie hc h
          refine a_iconst C eL_law_918 (0 : Int32) c_iconst_0 ?_
          exact rt_L R eL_law_919 h
      replace h := ie hs_146 h
      by_cases hs_152 : w_7 = (22 : Int32)
      · replace h := it hs_152 h
        refine a_tsw C eL_law_33 (22 : Int32) hs_152 (by decide) (by decide) rfl (tgt := 920) rfl ?_
        refine a_aload_n C eL_law_920 rfl ?_
        refine a_aload_n C eL_law_921 rfl ?_
        refine a_iload_n C eL_law_922 rfl ?_
        refine a_iconst C eL_law_923 (1 : Int32) c_iconst_1 ?_
        refine a_iadd C eL_law_924 ?_
        obtain ⟨hb_147, h⟩ := gd h
        refine a_sld C eL_law_925 hX hb_147 ?_
        obtain ⟨r_148, σ_149, hq, h⟩ := b2_e h
        refine a_dVi1 C eL_law_926 wL_107 ⟨Nat.le_of_ble_eq_true rfl, Nat.le_of_ble_eq_true rfl, rfl, rfl⟩ ⟨Nat.le_refl _, Nat.le_refl _⟩ rfl sh_0 rfl (kX9_cost hq) (Nat.le_of_ble_eq_true rfl) ?_
        refine a_aload_n C eL_law_929 rfl ?_
        refine a_aload_n C eL_law_930 rfl ?_
        refine a_iload_n C eL_law_931 rfl ?_
        refine a_iconst C eL_law_932 (1 : Int32) c_iconst_1 ?_
        refine a_iadd C eL_law_933 ?_
        refine a_sld C eL_law_934 hX hb_147 ?_
        obtain ⟨r_150, σ_151, hq, h⟩ := b2_e h
        refine a_dVi1 C eL_law_935 wL_110 ⟨Nat.le_of_ble_eq_true rfl, Nat.le_of_ble_eq_true rfl, rfl, rfl⟩ ⟨Nat.le_refl _, Nat.le_refl _⟩ rfl sh_64 rfl (kX10_cost hq) (Nat.le_of_ble_eq_true rfl) ?_
        refine a_icmp_eq C eL_law_938 (fun hc => ?_) (fun hc => ?_)
        · replace h := it hc h
          exact a_less (lle_same (lle_same (lle_same (lle_same lle_nil)))) (hk1331_5 _ h)
        · replace h := ie hc h
          refine a_iconst C eL_law_941 (0 : Int32) c_iconst_0 ?_
          exact rt_L R eL_law_942 h
      replace h := ie hs_152 h
      by_cases hs_158 : w_7 = (23 : Int32)
      · replace h := it hs_158 h
        refine a_tsw C eL_law_33 (23 : Int32) hs_158 (by decide) (by decide) rfl (tgt := 943) rfl ?_
        refine a_aload_n C eL_law_943 rfl ?_
        refine a_aload_n C eL_law_944 rfl ?_
        refine a_iload_n C eL_law_945 rfl ?_
        refine a_iconst C eL_law_946 (1 : Int32) c_iconst_1 ?_
        refine a_iadd C eL_law_947 ?_
        obtain ⟨hb_153, h⟩ := gd h
        refine a_sld C eL_law_948 hX hb_153 ?_
        obtain ⟨r_154, σ_155, hq, h⟩ := b2_e h
        refine a_dVi1 C eL_law_949 wL_111 ⟨Nat.le_of_ble_eq_true rfl, Nat.le_of_ble_eq_true rfl, rfl, rfl⟩ ⟨Nat.le_refl _, Nat.le_refl _⟩ rfl sh_0 rfl (kX9_costOf hq) (Nat.le_of_ble_eq_true rfl) ?_
        refine a_aload_n C eL_law_952 rfl ?_
        refine a_aload_n C eL_law_953 rfl ?_
        refine a_iload_n C eL_law_954 rfl ?_
        refine a_iconst C eL_law_955 (1 : Int32) c_iconst_1 ?_
        refine a_iadd C eL_law_956 ?_
        refine a_sld C eL_law_957 hX hb_153 ?_
        obtain ⟨r_156, σ_157, hq, h⟩ := b2_e h
        refine a_dVi1 C eL_law_958 wL_114 ⟨Nat.le_of_ble_eq_true rfl, Nat.le_of_ble_eq_true rfl, rfl, rfl⟩ ⟨Nat.le_refl _, Nat.le_refl _⟩ rfl sh_64 rfl (kX10_costOf hq) (Nat.le_of_ble_eq_true rfl) ?_
        refine a_icmp_eq C eL_law_961 (fun hc => ?_) (fun hc => ?_)
        · replace h := it hc h
          exact a_less (lle_same (lle_same (lle_same (lle_same lle_nil)))) (hk1331_5 _ h)
        · replace h := ie hc h
          refine a_iconst C eL_law_964 (0 : Int32) c_iconst_0 ?_
          exact rt_L R eL_law_965 h
      replace h := ie hs_158 h
      by_cases hs_165 : w_7 = (24 : Int32)
      · replace h := it hs_165 h
        refine a_tsw C eL_law_33 (24 : Int32) hs_165 (by decide) (by decide) rfl (tgt := 966) rfl ?_
        refine a_aload_n C eL_law_966 rfl ?_
        refine a_aload_n C eL_law_967 rfl ?_
        refine a_iload_n C eL_law_968 rfl ?_
        refine a_iconst C eL_law_969 (1 : Int32) c_iconst_1 ?_
        refine a_iadd C eL_law_970 ?_
        obtain ⟨hb_159, h⟩ := gd h
        refine a_sld C eL_law_971 hX hb_159 ?_
        refine a_aload_n C eL_law_972 rfl ?_
        refine a_iload_n C eL_law_973 rfl ?_
        refine a_iconst C eL_law_974 (2 : Int32) c_iconst_2 ?_
        refine a_iadd C eL_law_975 ?_
        obtain ⟨hb_160, h⟩ := gd h
        refine a_sld C eL_law_976 hX hb_160 ?_
        obtain ⟨r_161, σ_162, hq, h⟩ := b2_e h
        refine a_dVi2 C eL_law_977 wL_115 ⟨Nat.le_of_ble_eq_true rfl, Nat.le_of_ble_eq_true rfl, rfl, rfl⟩ ⟨Nat.le_refl _, Nat.le_refl _⟩ rfl sh_0 rfl (kX9_worth hq) (Nat.le_of_ble_eq_true rfl) ?_
        refine a_aload_n C eL_law_980 rfl ?_
        refine a_aload_n C eL_law_981 rfl ?_
        refine a_iload_n C eL_law_982 rfl ?_
        refine a_iconst C eL_law_983 (1 : Int32) c_iconst_1 ?_
        refine a_iadd C eL_law_984 ?_
        refine a_sld C eL_law_985 hX hb_159 ?_
        refine a_aload_n C eL_law_986 rfl ?_
        refine a_iload_n C eL_law_987 rfl ?_
        refine a_iconst C eL_law_988 (2 : Int32) c_iconst_2 ?_
        refine a_iadd C eL_law_989 ?_
        refine a_sld C eL_law_990 hX hb_160 ?_
        obtain ⟨r_163, σ_164, hq, h⟩ := b2_e h
        refine a_dVi2 C eL_law_991 wL_118 ⟨Nat.le_of_ble_eq_true rfl, Nat.le_of_ble_eq_true rfl, rfl, rfl⟩ ⟨Nat.le_refl _, Nat.le_refl _⟩ rfl sh_64 rfl (kX10_worth hq) (Nat.le_of_ble_eq_true rfl) ?_
        refine a_icmp_eq C eL_law_994 (fun hc => ?_) (fun hc => ?_)
        · replace h := it hc h
          exact a_less (lle_same (lle_same (lle_same (lle_same lle_nil)))) (hk1331_5 _ h)
        · replace h := ie hc h
          refine a_iconst C eL_law_997 (0 : Int32) c_iconst_0 ?_
          exact rt_L R eL_law_998 h
      replace h := ie hs_165 h
      by_cases hs_171 : w_7 = (25 : Int32)
      · replace h := it hs_171 h
        refine a_tsw C eL_law_33 (25 : Int32) hs_171 (by decide) (by decide) rfl (tgt := 999) rfl ?_
        refine a_aload_n C eL_law_999 rfl ?_
        refine a_aload_n C eL_law_1000 rfl ?_
        refine a_iload_n C eL_law_1001 rfl ?_
        refine a_iconst C eL_law_1002 (1 : Int32) c_iconst_1 ?_
        refine a_iadd C eL_law_1003 ?_
        obtain ⟨hb_166, h⟩ := gd h
        refine a_sld C eL_law_1004 hX hb_166 ?_
        obtain ⟨r_167, σ_168, hq, h⟩ := b2_e h
        refine a_dVi1 C eL_law_1005 wL_119 ⟨Nat.le_of_ble_eq_true rfl, Nat.le_of_ble_eq_true rfl, rfl, rfl⟩ ⟨Nat.le_refl _, Nat.le_refl _⟩ rfl sh_0 rfl (kX9_truck hq) (Nat.le_of_ble_eq_true rfl) ?_
        refine a_aload_n C eL_law_1008 rfl ?_
        refine a_aload_n C eL_law_1009 rfl ?_
        refine a_iload_n C eL_law_1010 rfl ?_
        refine a_iconst C eL_law_1011 (1 : Int32) c_iconst_1 ?_
        refine a_iadd C eL_law_1012 ?_
        refine a_sld C eL_law_1013 hX hb_166 ?_
        obtain ⟨r_169, σ_170, hq, h⟩ := b2_e h
        refine a_dVi1 C eL_law_1014 wL_122 ⟨Nat.le_of_ble_eq_true rfl, Nat.le_of_ble_eq_true rfl, rfl, rfl⟩ ⟨Nat.le_refl _, Nat.le_refl _⟩ rfl sh_64 rfl (kX10_truck hq) (Nat.le_of_ble_eq_true rfl) ?_
        refine a_icmp_eq C eL_law_1017 (fun hc => ?_) (fun hc => ?_)
        · replace h := it hc h
          exact a_less (lle_same (lle_same (lle_same (lle_same lle_nil)))) (hk1331_5 _ h)
        · replace h := ie hc h
          refine a_iconst C eL_law_1020 (0 : Int32) c_iconst_0 ?_
          exact rt_L R eL_law_1021 h
      replace h := ie hs_171 h
      by_cases hs_176 : w_7 = (26 : Int32)
      · replace h := it hs_176 h
        refine a_tsw C eL_law_33 (26 : Int32) hs_176 (by decide) (by decide) rfl (tgt := 1022) rfl ?_
        refine a_aload_n C eL_law_1022 rfl ?_
        obtain ⟨r_172, σ_173, hq, h⟩ := b2_e h
        refine a_dVi0 C eL_law_1023 wL_123 ⟨Nat.le_of_ble_eq_true rfl, Nat.le_of_ble_eq_true rfl, rfl, rfl⟩ ⟨Nat.le_refl _, Nat.le_refl _⟩ rfl sh_0 rfl (kX9_reach hq) (Nat.le_of_ble_eq_true rfl) ?_
        refine a_aload_n C eL_law_1026 rfl ?_
        obtain ⟨r_174, σ_175, hq, h⟩ := b2_e h
        refine a_dVi0 C eL_law_1027 wL_126 ⟨Nat.le_of_ble_eq_true rfl, Nat.le_of_ble_eq_true rfl, rfl, rfl⟩ ⟨Nat.le_refl _, Nat.le_refl _⟩ rfl sh_64 rfl (kX10_reach hq) (Nat.le_of_ble_eq_true rfl) ?_
        refine a_icmp_eq C eL_law_1030 (fun hc => ?_) (fun hc => ?_)
        · replace h := it hc h
          exact a_less (lle_same (lle_same (lle_same (lle_same lle_nil)))) (hk1331_5 _ h)
        · replace h := ie hc h
          refine a_iconst C eL_law_1033 (0 : Int32) c_iconst_0 ?_
          exact rt_L R eL_law_1034 h
      replace h := ie hs_176 h
      by_cases hs_182 : w_7 = (27 : Int32)
      · replace h := it hs_182 h
        refine a_tsw C eL_law_33 (27 : Int32) hs_182 (by decide) (by decide) rfl (tgt := 1035) rfl ?_
        refine a_aload_n C eL_law_1035 rfl ?_
        refine a_aload_n C eL_law_1036 rfl ?_
        refine a_iload_n C eL_law_1037 rfl ?_
        refine a_iconst C eL_law_1038 (1 : Int32) c_iconst_1 ?_
        refine a_iadd C eL_law_1039 ?_
        obtain ⟨hb_177, h⟩ := gd h
        refine a_sld C eL_law_1040 hX hb_177 ?_
        obtain ⟨r_178, σ_179, hq, h⟩ := b2_e h
        refine a_dVi1 C eL_law_1041 wL_127 ⟨Nat.le_of_ble_eq_true rfl, Nat.le_of_ble_eq_true rfl, rfl, rfl⟩ ⟨Nat.le_refl _, Nat.le_refl _⟩ rfl sh_0 rfl (kX9_scaled hq) (Nat.le_of_ble_eq_true rfl) ?_
        refine a_aload_n C eL_law_1044 rfl ?_
        refine a_aload_n C eL_law_1045 rfl ?_
        refine a_iload_n C eL_law_1046 rfl ?_
        refine a_iconst C eL_law_1047 (1 : Int32) c_iconst_1 ?_
        refine a_iadd C eL_law_1048 ?_
        refine a_sld C eL_law_1049 hX hb_177 ?_
        obtain ⟨r_180, σ_181, hq, h⟩ := b2_e h
        refine a_dVi1 C eL_law_1050 wL_130 ⟨Nat.le_of_ble_eq_true rfl, Nat.le_of_ble_eq_true rfl, rfl, rfl⟩ ⟨Nat.le_refl _, Nat.le_refl _⟩ rfl sh_64 rfl (kX10_scaled hq) (Nat.le_of_ble_eq_true rfl) ?_
        refine a_icmp_eq C eL_law_1053 (fun hc => ?_) (fun hc => ?_)
        · replace h := it hc h
          exact a_less (lle_same (lle_same (lle_same (lle_same lle_nil)))) (hk1331_5 _ h)
        · replace h := ie hc h
          refine a_iconst C eL_law_1056 (0 : Int32) c_iconst_0 ?_
          exact rt_L R eL_law_1057 h
      replace h := ie hs_182 h
      by_cases hs_189 : w_7 = (28 : Int32)
      · replace h := it hs_189 h
        refine a_tsw C eL_law_33 (28 : Int32) hs_189 (by decide) (by decide) rfl (tgt := 1058) rfl ?_
        refine a_aload_n C eL_law_1058 rfl ?_
        refine a_aload_n C eL_law_1059 rfl ?_
        refine a_iload_n C eL_law_1060 rfl ?_
        refine a_iconst C eL_law_1061 (1 : Int32) c_iconst_1 ?_
        refine a_iadd C eL_law_1062 ?_
        obtain ⟨hb_183, h⟩ := gd h
        refine a_sld C eL_law_1063 hX hb_183 ?_
        refine a_aload_n C eL_law_1064 rfl ?_
        refine a_iload_n C eL_law_1065 rfl ?_
        refine a_iconst C eL_law_1066 (2 : Int32) c_iconst_2 ?_
        refine a_iadd C eL_law_1067 ?_
        obtain ⟨hb_184, h⟩ := gd h
        refine a_sld C eL_law_1068 hX hb_184 ?_
        obtain ⟨r_185, σ_186, hq, h⟩ := b2_e h
        refine a_dVi2 C eL_law_1069 wL_131 ⟨Nat.le_of_ble_eq_true rfl, Nat.le_of_ble_eq_true rfl, rfl, rfl⟩ ⟨Nat.le_refl _, Nat.le_refl _⟩ rfl sh_0 rfl (kX9_alone hq) (Nat.le_of_ble_eq_true rfl) ?_
        refine a_aload_n C eL_law_1072 rfl ?_
        refine a_aload_n C eL_law_1073 rfl ?_
        refine a_iload_n C eL_law_1074 rfl ?_
        refine a_iconst C eL_law_1075 (1 : Int32) c_iconst_1 ?_
        refine a_iadd C eL_law_1076 ?_
        refine a_sld C eL_law_1077 hX hb_183 ?_
        refine a_aload_n C eL_law_1078 rfl ?_
        refine a_iload_n C eL_law_1079 rfl ?_
        refine a_iconst C eL_law_1080 (2 : Int32) c_iconst_2 ?_
        refine a_iadd C eL_law_1081 ?_
        refine a_sld C eL_law_1082 hX hb_184 ?_
        obtain ⟨r_187, σ_188, hq, h⟩ := b2_e h
        refine a_dVi2 C eL_law_1083 wL_134 ⟨Nat.le_of_ble_eq_true rfl, Nat.le_of_ble_eq_true rfl, rfl, rfl⟩ ⟨Nat.le_refl _, Nat.le_refl _⟩ rfl sh_64 rfl (kX10_alone hq) (Nat.le_of_ble_eq_true rfl) ?_
        refine a_icmp_eq C eL_law_1086 (fun hc => ?_) (fun hc => ?_)
        · replace h := it hc h
          exact a_less (lle_same (lle_same (lle_same (lle_same lle_nil)))) (hk1331_5 _ h)
        · replace h := ie hc h
          refine a_iconst C eL_law_1089 (0 : Int32) c_iconst_0 ?_
          exact rt_L R eL_law_1090 h
      replace h := ie hs_189 h
      by_cases hs_196 : w_7 = (29 : Int32)
      · replace h := it hs_196 h
        refine a_tsw C eL_law_33 (29 : Int32) hs_196 (by decide) (by decide) rfl (tgt := 1091) rfl ?_
        refine a_aload_n C eL_law_1091 rfl ?_
        refine a_aload_n C eL_law_1092 rfl ?_
        refine a_iload_n C eL_law_1093 rfl ?_
        refine a_iconst C eL_law_1094 (1 : Int32) c_iconst_1 ?_
        refine a_iadd C eL_law_1095 ?_
        obtain ⟨hb_190, h⟩ := gd h
        refine a_sld C eL_law_1096 hX hb_190 ?_
        refine a_aload_n C eL_law_1097 rfl ?_
        refine a_iload_n C eL_law_1098 rfl ?_
        refine a_iconst C eL_law_1099 (2 : Int32) c_iconst_2 ?_
        refine a_iadd C eL_law_1100 ?_
        obtain ⟨hb_191, h⟩ := gd h
        refine a_sld C eL_law_1101 hX hb_191 ?_
        obtain ⟨r_192, σ_193, hq, h⟩ := b2_e h
        refine a_dVi2 C eL_law_1102 wL_135 ⟨Nat.le_of_ble_eq_true rfl, Nat.le_of_ble_eq_true rfl, rfl, rfl⟩ ⟨Nat.le_refl _, Nat.le_refl _⟩ rfl sh_0 rfl (kX9_every hq) (Nat.le_of_ble_eq_true rfl) ?_
        refine a_aload_n C eL_law_1105 rfl ?_
        refine a_aload_n C eL_law_1106 rfl ?_
        refine a_iload_n C eL_law_1107 rfl ?_
        refine a_iconst C eL_law_1108 (1 : Int32) c_iconst_1 ?_
        refine a_iadd C eL_law_1109 ?_
        refine a_sld C eL_law_1110 hX hb_190 ?_
        refine a_aload_n C eL_law_1111 rfl ?_
        refine a_iload_n C eL_law_1112 rfl ?_
        refine a_iconst C eL_law_1113 (2 : Int32) c_iconst_2 ?_
        refine a_iadd C eL_law_1114 ?_
        refine a_sld C eL_law_1115 hX hb_191 ?_
        obtain ⟨r_194, σ_195, hq, h⟩ := b2_e h
        refine a_dVi2 C eL_law_1116 wL_138 ⟨Nat.le_of_ble_eq_true rfl, Nat.le_of_ble_eq_true rfl, rfl, rfl⟩ ⟨Nat.le_refl _, Nat.le_refl _⟩ rfl sh_64 rfl (kX10_every hq) (Nat.le_of_ble_eq_true rfl) ?_
        refine a_icmp_eq C eL_law_1119 (fun hc => ?_) (fun hc => ?_)
        · replace h := it hc h
          exact a_less (lle_same (lle_same (lle_same (lle_same lle_nil)))) (hk1331_5 _ h)
        · replace h := ie hc h
          refine a_iconst C eL_law_1122 (0 : Int32) c_iconst_0 ?_
          exact rt_L R eL_law_1123 h
      replace h := ie hs_196 h
      by_cases hs_202 : w_7 = (30 : Int32)
      · replace h := it hs_202 h
        refine a_tsw C eL_law_33 (30 : Int32) hs_202 (by decide) (by decide) rfl (tgt := 1124) rfl ?_
        refine a_aload_n C eL_law_1124 rfl ?_
        refine a_aload_n C eL_law_1125 rfl ?_
        refine a_iload_n C eL_law_1126 rfl ?_
        refine a_iconst C eL_law_1127 (1 : Int32) c_iconst_1 ?_
        refine a_iadd C eL_law_1128 ?_
        obtain ⟨hb_197, h⟩ := gd h
        refine a_sld C eL_law_1129 hX hb_197 ?_
        obtain ⟨r_198, σ_199, hq, h⟩ := b2_e h
        refine a_dVi1 C eL_law_1130 wL_139 ⟨Nat.le_of_ble_eq_true rfl, Nat.le_of_ble_eq_true rfl, rfl, rfl⟩ ⟨Nat.le_refl _, Nat.le_refl _⟩ rfl sh_0 rfl (kX9_joint hq) (Nat.le_of_ble_eq_true rfl) ?_
        refine a_aload_n C eL_law_1133 rfl ?_
        refine a_aload_n C eL_law_1134 rfl ?_
        refine a_iload_n C eL_law_1135 rfl ?_
        refine a_iconst C eL_law_1136 (1 : Int32) c_iconst_1 ?_
        refine a_iadd C eL_law_1137 ?_
        refine a_sld C eL_law_1138 hX hb_197 ?_
        obtain ⟨r_200, σ_201, hq, h⟩ := b2_e h
        refine a_dVi1 C eL_law_1139 wL_142 ⟨Nat.le_of_ble_eq_true rfl, Nat.le_of_ble_eq_true rfl, rfl, rfl⟩ ⟨Nat.le_refl _, Nat.le_refl _⟩ rfl sh_64 rfl (kX10_joint hq) (Nat.le_of_ble_eq_true rfl) ?_
        refine a_icmp_eq C eL_law_1142 (fun hc => ?_) (fun hc => ?_)
        · replace h := it hc h
          exact a_less (lle_same (lle_same (lle_same (lle_same lle_nil)))) (hk1331_5 _ h)
        · replace h := ie hc h
          refine a_iconst C eL_law_1145 (0 : Int32) c_iconst_0 ?_
          exact rt_L R eL_law_1146 h
      replace h := ie hs_202 h
      by_cases hs_209 : w_7 = (31 : Int32)
      · replace h := it hs_209 h
        refine a_tsw C eL_law_33 (31 : Int32) hs_209 (by decide) (by decide) rfl (tgt := 1147) rfl ?_
        refine a_aload_n C eL_law_1147 rfl ?_
        refine a_aload_n C eL_law_1148 rfl ?_
        refine a_iload_n C eL_law_1149 rfl ?_
        refine a_iconst C eL_law_1150 (1 : Int32) c_iconst_1 ?_
        refine a_iadd C eL_law_1151 ?_
        obtain ⟨hb_203, h⟩ := gd h
        refine a_sld C eL_law_1152 hX hb_203 ?_
        refine a_aload_n C eL_law_1153 rfl ?_
        refine a_iload_n C eL_law_1154 rfl ?_
        refine a_iconst C eL_law_1155 (2 : Int32) c_iconst_2 ?_
        refine a_iadd C eL_law_1156 ?_
        obtain ⟨hb_204, h⟩ := gd h
        refine a_sld C eL_law_1157 hX hb_204 ?_
        obtain ⟨r_205, σ_206, hq, h⟩ := b2_e h
        refine a_dVi2 C eL_law_1158 wL_143 ⟨Nat.le_of_ble_eq_true rfl, Nat.le_of_ble_eq_true rfl, rfl, rfl⟩ ⟨Nat.le_refl _, Nat.le_refl _⟩ rfl sh_0 rfl (kX9_visit hq) (Nat.le_of_ble_eq_true rfl) ?_
        refine a_aload_n C eL_law_1161 rfl ?_
        refine a_aload_n C eL_law_1162 rfl ?_
        refine a_iload_n C eL_law_1163 rfl ?_
        refine a_iconst C eL_law_1164 (1 : Int32) c_iconst_1 ?_
        refine a_iadd C eL_law_1165 ?_
        refine a_sld C eL_law_1166 hX hb_203 ?_
        refine a_aload_n C eL_law_1167 rfl ?_
        refine a_iload_n C eL_law_1168 rfl ?_
        refine a_iconst C eL_law_1169 (2 : Int32) c_iconst_2 ?_
        refine a_iadd C eL_law_1170 ?_
        refine a_sld C eL_law_1171 hX hb_204 ?_
        obtain ⟨r_207, σ_208, hq, h⟩ := b2_e h
        refine a_dVi2 C eL_law_1172 wL_146 ⟨Nat.le_of_ble_eq_true rfl, Nat.le_of_ble_eq_true rfl, rfl, rfl⟩ ⟨Nat.le_refl _, Nat.le_refl _⟩ rfl sh_64 rfl (kX10_visit hq) (Nat.le_of_ble_eq_true rfl) ?_
        refine a_icmp_eq C eL_law_1175 (fun hc => ?_) (fun hc => ?_)
        · replace h := it hc h
          exact a_less (lle_same (lle_same (lle_same (lle_same lle_nil)))) (hk1331_5 _ h)
        · replace h := ie hc h
          refine a_iconst C eL_law_1178 (0 : Int32) c_iconst_0 ?_
          exact rt_L R eL_law_1179 h
      replace h := ie hs_209 h
      by_cases hs_215 : w_7 = (32 : Int32)
      · replace h := it hs_215 h
        refine a_tsw C eL_law_33 (32 : Int32) hs_215 (by decide) (by decide) rfl (tgt := 1180) rfl ?_
        refine a_aload_n C eL_law_1180 rfl ?_
        refine a_aload_n C eL_law_1181 rfl ?_
        refine a_iload_n C eL_law_1182 rfl ?_
        refine a_iconst C eL_law_1183 (1 : Int32) c_iconst_1 ?_
        refine a_iadd C eL_law_1184 ?_
        obtain ⟨hb_210, h⟩ := gd h
        refine a_sld C eL_law_1185 hX hb_210 ?_
        obtain ⟨r_211, σ_212, hq, h⟩ := b2_e h
        refine a_dVi1 C eL_law_1186 wL_147 ⟨Nat.le_of_ble_eq_true rfl, Nat.le_of_ble_eq_true rfl, rfl, rfl⟩ ⟨Nat.le_refl _, Nat.le_refl _⟩ rfl sh_0 rfl (kX9_rule hq) (Nat.le_of_ble_eq_true rfl) ?_
        refine a_aload_n C eL_law_1189 rfl ?_
        refine a_aload_n C eL_law_1190 rfl ?_
        refine a_iload_n C eL_law_1191 rfl ?_
        refine a_iconst C eL_law_1192 (1 : Int32) c_iconst_1 ?_
        refine a_iadd C eL_law_1193 ?_
        refine a_sld C eL_law_1194 hX hb_210 ?_
        obtain ⟨r_213, σ_214, hq, h⟩ := b2_e h
        refine a_dVi1 C eL_law_1195 wL_150 ⟨Nat.le_of_ble_eq_true rfl, Nat.le_of_ble_eq_true rfl, rfl, rfl⟩ ⟨Nat.le_refl _, Nat.le_refl _⟩ rfl sh_64 rfl (kX10_rule hq) (Nat.le_of_ble_eq_true rfl) ?_
        refine a_icmp_eq C eL_law_1198 (fun hc => ?_) (fun hc => ?_)
        · replace h := it hc h
          exact a_less (lle_same (lle_same (lle_same (lle_same lle_nil)))) (hk1331_5 _ h)
        · replace h := ie hc h
          refine a_iconst C eL_law_1201 (0 : Int32) c_iconst_0 ?_
          exact rt_L R eL_law_1202 h
      replace h := ie hs_215 h
      by_cases hs_221 : w_7 = (33 : Int32)
      · replace h := it hs_221 h
        refine a_tsw C eL_law_33 (33 : Int32) hs_221 (by decide) (by decide) rfl (tgt := 1203) rfl ?_
        refine a_aload_n C eL_law_1203 rfl ?_
        refine a_aload_n C eL_law_1204 rfl ?_
        refine a_iload_n C eL_law_1205 rfl ?_
        refine a_iconst C eL_law_1206 (1 : Int32) c_iconst_1 ?_
        refine a_iadd C eL_law_1207 ?_
        obtain ⟨hb_216, h⟩ := gd h
        refine a_sld C eL_law_1208 hX hb_216 ?_
        obtain ⟨r_217, σ_218, hq, h⟩ := b2_e h
        refine a_dVi1 C eL_law_1209 wL_151 ⟨Nat.le_of_ble_eq_true rfl, Nat.le_of_ble_eq_true rfl, rfl, rfl⟩ ⟨Nat.le_refl _, Nat.le_refl _⟩ rfl sh_0 rfl (kX9_better hq) (Nat.le_of_ble_eq_true rfl) ?_
        refine a_aload_n C eL_law_1212 rfl ?_
        refine a_aload_n C eL_law_1213 rfl ?_
        refine a_iload_n C eL_law_1214 rfl ?_
        refine a_iconst C eL_law_1215 (1 : Int32) c_iconst_1 ?_
        refine a_iadd C eL_law_1216 ?_
        refine a_sld C eL_law_1217 hX hb_216 ?_
        obtain ⟨r_219, σ_220, hq, h⟩ := b2_e h
        refine a_dVi1 C eL_law_1218 wL_154 ⟨Nat.le_of_ble_eq_true rfl, Nat.le_of_ble_eq_true rfl, rfl, rfl⟩ ⟨Nat.le_refl _, Nat.le_refl _⟩ rfl sh_64 rfl (kX10_better hq) (Nat.le_of_ble_eq_true rfl) ?_
        refine a_icmp_eq C eL_law_1221 (fun hc => ?_) (fun hc => ?_)
        · replace h := it hc h
          exact a_less (lle_same (lle_same (lle_same (lle_same lle_nil)))) (hk1331_5 _ h)
        · replace h := ie hc h
          refine a_iconst C eL_law_1224 (0 : Int32) c_iconst_0 ?_
          exact rt_L R eL_law_1225 h
      replace h := ie hs_221 h
      by_cases hs_227 : w_7 = (34 : Int32)
      · replace h := it hs_227 h
        refine a_tsw C eL_law_33 (34 : Int32) hs_227 (by decide) (by decide) rfl (tgt := 1226) rfl ?_
        refine a_aload_n C eL_law_1226 rfl ?_
        refine a_aload_n C eL_law_1227 rfl ?_
        refine a_iload_n C eL_law_1228 rfl ?_
        refine a_iconst C eL_law_1229 (1 : Int32) c_iconst_1 ?_
        refine a_iadd C eL_law_1230 ?_
        obtain ⟨hb_222, h⟩ := gd h
        refine a_sld C eL_law_1231 hX hb_222 ?_
        obtain ⟨r_223, σ_224, hq, h⟩ := b2_e h
        refine a_dVi1 C eL_law_1232 wL_155 ⟨Nat.le_of_ble_eq_true rfl, Nat.le_of_ble_eq_true rfl, rfl, rfl⟩ ⟨Nat.le_refl _, Nat.le_refl _⟩ rfl sh_0 rfl (kX9_tune hq) (Nat.le_of_ble_eq_true rfl) ?_
        refine a_aload_n C eL_law_1235 rfl ?_
        refine a_aload_n C eL_law_1236 rfl ?_
        refine a_iload_n C eL_law_1237 rfl ?_
        refine a_iconst C eL_law_1238 (1 : Int32) c_iconst_1 ?_
        refine a_iadd C eL_law_1239 ?_
        refine a_sld C eL_law_1240 hX hb_222 ?_
        obtain ⟨r_225, σ_226, hq, h⟩ := b2_e h
        refine a_dVi1 C eL_law_1241 wL_158 ⟨Nat.le_of_ble_eq_true rfl, Nat.le_of_ble_eq_true rfl, rfl, rfl⟩ ⟨Nat.le_refl _, Nat.le_refl _⟩ rfl sh_64 rfl (kX10_tune hq) (Nat.le_of_ble_eq_true rfl) ?_
        refine a_icmp_eq C eL_law_1244 (fun hc => ?_) (fun hc => ?_)
        · replace h := it hc h
          exact a_less (lle_same (lle_same (lle_same (lle_same lle_nil)))) (hk1331_5 _ h)
        · replace h := ie hc h
          refine a_iconst C eL_law_1247 (0 : Int32) c_iconst_0 ?_
          exact rt_L R eL_law_1248 h
      replace h := ie hs_227 h
      by_cases hs_232 : w_7 = (35 : Int32)
      · replace h := it hs_232 h
        refine a_tsw C eL_law_33 (35 : Int32) hs_232 (by decide) (by decide) rfl (tgt := 1249) rfl ?_
        refine a_aload_n C eL_law_1249 rfl ?_
        obtain ⟨r_228, σ_229, hq, h⟩ := b2_e h
        refine a_dVi0 C eL_law_1250 wL_159 ⟨Nat.le_of_ble_eq_true rfl, Nat.le_of_ble_eq_true rfl, rfl, rfl⟩ ⟨Nat.le_refl _, Nat.le_refl _⟩ rfl sh_0 rfl (kX9_least hq) (Nat.le_of_ble_eq_true rfl) ?_
        refine a_aload_n C eL_law_1253 rfl ?_
        obtain ⟨r_230, σ_231, hq, h⟩ := b2_e h
        refine a_dVi0 C eL_law_1254 wL_162 ⟨Nat.le_of_ble_eq_true rfl, Nat.le_of_ble_eq_true rfl, rfl, rfl⟩ ⟨Nat.le_refl _, Nat.le_refl _⟩ rfl sh_64 rfl (kX10_least hq) (Nat.le_of_ble_eq_true rfl) ?_
        refine a_icmp_eq C eL_law_1257 (fun hc => ?_) (fun hc => ?_)
        · replace h := it hc h
          exact a_less (lle_same (lle_same (lle_same (lle_same lle_nil)))) (hk1331_5 _ h)
        · replace h := ie hc h
          refine a_iconst C eL_law_1260 (0 : Int32) c_iconst_0 ?_
          exact rt_L R eL_law_1261 h
      replace h := ie hs_232 h
      by_cases hs_237 : w_7 = (36 : Int32)
      · replace h := it hs_237 h
        refine a_tsw C eL_law_33 (36 : Int32) hs_237 (by decide) (by decide) rfl (tgt := 1262) rfl ?_
        refine a_aload_n C eL_law_1262 rfl ?_
        obtain ⟨r_233, σ_234, hq, h⟩ := b2_e h
        refine a_dVi0 C eL_law_1263 wL_163 ⟨Nat.le_of_ble_eq_true rfl, Nat.le_of_ble_eq_true rfl, rfl, rfl⟩ ⟨Nat.le_refl _, Nat.le_refl _⟩ rfl sh_0 rfl (kX9_clear hq) (Nat.le_of_ble_eq_true rfl) ?_
        refine a_aload_n C eL_law_1266 rfl ?_
        obtain ⟨r_235, σ_236, hq, h⟩ := b2_e h
        refine a_dVi0 C eL_law_1267 wL_166 ⟨Nat.le_of_ble_eq_true rfl, Nat.le_of_ble_eq_true rfl, rfl, rfl⟩ ⟨Nat.le_refl _, Nat.le_refl _⟩ rfl sh_64 rfl (kX10_clear hq) (Nat.le_of_ble_eq_true rfl) ?_
        refine a_icmp_eq C eL_law_1270 (fun hc => ?_) (fun hc => ?_)
        · replace h := it hc h
          exact a_less (lle_same (lle_same (lle_same (lle_same lle_nil)))) (hk1331_5 _ h)
        · replace h := ie hc h
          refine a_iconst C eL_law_1273 (0 : Int32) c_iconst_0 ?_
          exact rt_L R eL_law_1274 h
      replace h := ie hs_237 h
      by_cases hs_245 : w_7 = (37 : Int32)
      · replace h := it hs_245 h
        refine a_tsw C eL_law_33 (37 : Int32) hs_245 (by decide) (by decide) rfl (tgt := 1275) rfl ?_
        refine a_aload_n C eL_law_1275 rfl ?_
        refine a_aload_n C eL_law_1276 rfl ?_
        refine a_iload_n C eL_law_1277 rfl ?_
        refine a_iconst C eL_law_1278 (1 : Int32) c_iconst_1 ?_
        refine a_iadd C eL_law_1279 ?_
        obtain ⟨hb_238, h⟩ := gd h
        refine a_sld C eL_law_1280 hX hb_238 ?_
        refine a_aload_n C eL_law_1281 rfl ?_
        refine a_iload_n C eL_law_1282 rfl ?_
        refine a_iconst C eL_law_1283 (2 : Int32) c_iconst_2 ?_
        refine a_iadd C eL_law_1284 ?_
        obtain ⟨hb_239, h⟩ := gd h
        refine a_sld C eL_law_1285 hX hb_239 ?_
        refine a_aload_n C eL_law_1286 rfl ?_
        refine a_iload_n C eL_law_1287 rfl ?_
        refine a_iconst C eL_law_1288 (3 : Int32) c_iconst_3 ?_
        refine a_iadd C eL_law_1289 ?_
        obtain ⟨hb_240, h⟩ := gd h
        refine a_sld C eL_law_1290 hX hb_240 ?_
        obtain ⟨r_241, σ_242, hq, h⟩ := b2_e h
        refine a_dVi3 C eL_law_1291 wL_167 ⟨Nat.le_of_ble_eq_true rfl, Nat.le_of_ble_eq_true rfl, rfl, rfl⟩ ⟨Nat.le_refl _, Nat.le_refl _⟩ rfl sh_0 rfl (kX9_rush hq) (Nat.le_of_ble_eq_true rfl) ?_
        refine a_aload_n C eL_law_1294 rfl ?_
        refine a_aload_n C eL_law_1295 rfl ?_
        refine a_iload_n C eL_law_1296 rfl ?_
        refine a_iconst C eL_law_1297 (1 : Int32) c_iconst_1 ?_
        refine a_iadd C eL_law_1298 ?_
        refine a_sld C eL_law_1299 hX hb_238 ?_
        refine a_aload_n C eL_law_1300 rfl ?_
        refine a_iload_n C eL_law_1301 rfl ?_
        refine a_iconst C eL_law_1302 (2 : Int32) c_iconst_2 ?_
        refine a_iadd C eL_law_1303 ?_
        refine a_sld C eL_law_1304 hX hb_239 ?_
        refine a_aload_n C eL_law_1305 rfl ?_
        refine a_iload_n C eL_law_1306 rfl ?_
        refine a_iconst C eL_law_1307 (3 : Int32) c_iconst_3 ?_
        refine a_iadd C eL_law_1308 ?_
        refine a_sld C eL_law_1309 hX hb_240 ?_
        obtain ⟨r_243, σ_244, hq, h⟩ := b2_e h
        refine a_dVi3 C eL_law_1310 wL_170 ⟨Nat.le_of_ble_eq_true rfl, Nat.le_of_ble_eq_true rfl, rfl, rfl⟩ ⟨Nat.le_refl _, Nat.le_refl _⟩ rfl sh_64 rfl (kX10_rush hq) (Nat.le_of_ble_eq_true rfl) ?_
        refine a_icmp_eq C eL_law_1313 (fun hc => ?_) (fun hc => ?_)
        · replace h := it hc h
          exact a_less (lle_same (lle_same (lle_same (lle_same lle_nil)))) (hk1331_5 _ h)
        · replace h := ie hc h
          refine a_iconst C eL_law_1316 (0 : Int32) c_iconst_0 ?_
          exact rt_L R eL_law_1317 h
      replace h := ie hs_245 h
      by_cases hs_250 : w_7 = (38 : Int32)
      · replace h := it hs_250 h
        refine a_tsw C eL_law_33 (38 : Int32) hs_250 (by decide) (by decide) rfl (tgt := 1318) rfl ?_
        refine a_aload_n C eL_law_1318 rfl ?_
        obtain ⟨r_246, σ_247, hq, h⟩ := b2_e h
        refine a_dVi0 C eL_law_1319 wL_171 ⟨Nat.le_of_ble_eq_true rfl, Nat.le_of_ble_eq_true rfl, rfl, rfl⟩ ⟨Nat.le_refl _, Nat.le_refl _⟩ rfl sh_0 rfl (kX9_undo hq) (Nat.le_of_ble_eq_true rfl) ?_
        refine a_aload_n C eL_law_1322 rfl ?_
        obtain ⟨r_248, σ_249, hq, h⟩ := b2_e h
        refine a_dVi0 C eL_law_1323 wL_175 ⟨Nat.le_of_ble_eq_true rfl, Nat.le_of_ble_eq_true rfl, rfl, rfl⟩ ⟨Nat.le_refl _, Nat.le_refl _⟩ rfl sh_64 rfl (kX10_undo hq) (Nat.le_of_ble_eq_true rfl) ?_
        refine a_icmp_eq C eL_law_1326 (fun hc => ?_) (fun hc => ?_)
        · replace h := it hc h
          exact a_less (lle_same (lle_same (lle_same (lle_same lle_nil)))) (hk1331_5 _ h)
        · replace h := ie hc h
          refine a_iconst C eL_law_1329 (0 : Int32) c_iconst_0 ?_
          exact rt_L R eL_law_1330 h
      replace h := ie hs_250 h
      refine a_tsw_out C eL_law_33 39 rfl (fun j hj => match j, hj with | 0, _ => lv_neT hs_17 rfl | 1, _ => lv_neT hs_23 rfl | 2, _ => lv_neT hs_28 rfl | 3, _ => lv_neT hs_33 rfl | 4, _ => lv_neT hs_38 rfl | 5, _ => lv_neT hs_44 rfl | 6, _ => lv_neT hs_50 rfl | 7, _ => lv_neT hs_56 rfl | 8, _ => lv_neT hs_62 rfl | 9, _ => lv_neT hs_68 rfl | 10, _ => lv_neT hs_73 rfl | 11, _ => lv_neT hs_79 rfl | 12, _ => lv_neT hs_85 rfl | 13, _ => lv_neT hs_93 rfl | 14, _ => lv_neT hs_99 rfl | 15, _ => lv_neT hs_107 rfl | 16, _ => lv_neT hs_115 rfl | 17, _ => lv_neT hs_120 rfl | 18, _ => lv_neT hs_126 rfl | 19, _ => lv_neT hs_133 rfl | 20, _ => lv_neT hs_141 rfl | 21, _ => lv_neT hs_146 rfl | 22, _ => lv_neT hs_152 rfl | 23, _ => lv_neT hs_158 rfl | 24, _ => lv_neT hs_165 rfl | 25, _ => lv_neT hs_171 rfl | 26, _ => lv_neT hs_176 rfl | 27, _ => lv_neT hs_182 rfl | 28, _ => lv_neT hs_189 rfl | 29, _ => lv_neT hs_196 rfl | 30, _ => lv_neT hs_202 rfl | 31, _ => lv_neT hs_209 rfl | 32, _ => lv_neT hs_215 rfl | 33, _ => lv_neT hs_221 rfl | 34, _ => lv_neT hs_227 rfl | 35, _ => lv_neT hs_232 rfl | 36, _ => lv_neT hs_237 rfl | 37, _ => lv_neT hs_245 rfl | 38, _ => lv_neT hs_250 rfl | j + 39, hj => absurd hj (by omega)) (tgt := 1331) rfl ?_
      exact a_less (lle_same (lle_same (lle_same (lle_same lle_nil)))) (hk1331_5 _ h)
