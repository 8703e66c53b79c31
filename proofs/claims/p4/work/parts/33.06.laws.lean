-- ===== laws of opaque facts =====
-- src_t
def q_l180 : SvM := ([(0, none), (0, none), (0, none), (0, none), (0, none), (0, none), (0, none), (-1180591620717411303424, none)], [(52, [], [(0, [(0, 1)]), (0, [(1, 1)]), (0, [(2, 1)]), (0, [(3, 1)]), (0, [(4, 1)]), (0, [(5, 1)]), (0, [(6, 1)]), (0, [(7, 1)])]), (53, [], [(0, [(0, 1)]), (0, [(3, 1)]), (0, [(4, 1)]), (0, [(5, 1)]), (0, [(6, 1)]), (0, [(7, 1)])]), (0, [], [(0, [(7, 1)])])], [(52, [], [(0, [(0, 1)]), (0, [(1, 1)]), (0, [(2, 1)]), (0, [(3, 1)]), (0, [(4, 1)]), (0, [(5, 1)]), (0, [(6, 1)]), (1, [(7, 1)])])])
-- os_0
def q_l181 : SvM := ([(0, none), (0, none), (0, none), (0, none), (0, none), (0, none), (0, none), (0, none), (-1180591620717411303424, none), (-1180591620717411303424, none)], [(1, [109], [(0, [(0, 1)])]), (1, [110], [(0, [(1, 1)])]), (1, [111], [(0, [(2, 1)])]), (1, [84], [(0, [(3, 1)])]), (1, [75], [(0, [(4, 1)])]), (1, [76], [(0, [(5, 1)])]), (1, [77], [(0, [(6, 1)])]), (1, [78], [(0, [(7, 1)])]), (0, [], [(0, [(8, -1)])])], [(54, [], [(0, [(0, 1)]), (0, [(1, 1)]), (0, [(2, 1)]), (0, [(3, 1)]), (0, [(4, 1)]), (0, [(5, 1)]), (0, [(6, 1)]), (0, [(7, 1)]), (0, [(8, 1)]), (0, [(9, 1)])])])
-- os_w
def q_l182 : SvM := ([(0, none), (0, none), (0, none), (0, none), (0, none), (0, none), (0, none), (0, none), (-1180591620717411303424, none), (-1180591620717411303424, none), (-1180591620717411303424, none)], [(54, [], [(0, [(0, 1)]), (0, [(1, 1)]), (0, [(2, 1)]), (0, [(3, 1)]), (0, [(4, 1)]), (0, [(5, 1)]), (0, [(6, 1)]), (0, [(7, 1)]), (0, [(8, 1)]), (0, [(9, 1)])]), (0, [], [(0, [(9, -1), (10, 1)])])], [(54, [], [(0, [(0, 1)]), (0, [(1, 1)]), (0, [(2, 1)]), (0, [(3, 1)]), (0, [(4, 1)]), (0, [(5, 1)]), (0, [(6, 1)]), (0, [(7, 1)]), (0, [(8, 1)]), (0, [(10, 1)])])])
-- os_a
def q_l183 : SvM := ([(0, none), (0, none), (0, none), (0, none), (0, none), (0, none), (0, none), (0, none), (-1180591620717411303424, none), (-1180591620717411303424, none), (-1180591620717411303424, none), (-1180591620717411303424, none), (-1180591620717411303424, none), (-1180591620717411303424, none), (-1180591620717411303424, none), (-1180591620717411303424, none), (-1180591620717411303424, none), (-1180591620717411303424, none), (-1180591620717411303424, none), (-1180591620717411303424, none), (-1180591620717411303424, none), (-1180591620717411303424, none), (-1180591620717411303424, none), (-1180591620717411303424, none), (-1180591620717411303424, none), (-1180591620717411303424, none), (-1180591620717411303424, none)], [(54, [], [(0, [(0, 1)]), (0, [(1, 1)]), (0, [(2, 1)]), (0, [(3, 1)]), (0, [(4, 1)]), (0, [(5, 1)]), (0, [(6, 1)]), (0, [(7, 1)]), (0, [(8, 1)]), (0, [(9, 1)])]), (4, [109, 1], [(0, [(0, 1)]), (0, [(10, 1)]), (0, [(11, 1)])]), (2, [], [(0, [(0, 1)]), (0, [(12, 1)])]), (0, [], [(-1, [(10, -1), (12, 1)])]), (4, [110, 1], [(0, [(1, 1)]), (0, [(10, 1)]), (0, [(13, 1)])]), (2, [], [(0, [(1, 1)]), (0, [(14, 1)])]), (0, [], [(-1, [(10, -1), (14, 1)])]), (4, [111, 1], [(0, [(2, 1)]), (0, [(10, 1)]), (0, [(15, 1)])]), (2, [], [(0, [(2, 1)]), (0, [(16, 1)])]), (0, [], [(-1, [(10, -1), (16, 1)])]), (0, [], [(0, [(8, 1), (10, -1)])]), (0, [], [(0, [(8, -1), (10, 1)])]), (0, [], [(0, [(10, 1)])]), (0, [], [(0, [(11, 1)])]), (0, [], [(-1, [(9, 1), (11, -1)])]), (0, [], [(0, [(13, 1)])]), (0, [], [(149, [(13, -1)])]), (4, [84, 1], [(0, [(3, 1)]), (0, [(11, 150), (13, 1)]), (0, [(17, 1)])]), (2, [], [(0, [(3, 1)]), (0, [(18, 1)])]), (0, [], [(-1, [(11, -150), (13, -1), (18, 1)])]), (4, [75, 1], [(0, [(4, 1)]), (0, [(11, 1)]), (0, [(19, 1)])]), (2, [], [(0, [(4, 1)]), (0, [(20, 1)])]), (0, [], [(-1, [(11, -1), (20, 1)])]), (4, [76, 1], [(0, [(5, 1)]), (0, [(11, 1)]), (0, [(21, 1)])]), (2, [], [(0, [(5, 1)]), (0, [(22, 1)])]), (0, [], [(-1, [(11, -1), (22, 1)])]), (4, [77, 1], [(0, [(6, 1)]), (0, [(11, 1)]), (0, [(23, 1)])]), (2, [], [(0, [(6, 1)]), (0, [(24, 1)])]), (0, [], [(-1, [(11, -1), (24, 1)])]), (4, [78, 1], [(0, [(7, 1)]), (0, [(11, 1)]), (0, [(25, 1)])]), (2, [], [(0, [(7, 1)]), (0, [(26, 1)])]), (0, [], [(-1, [(11, -1), (26, 1)])]), (0, [], [(-1, [(13, -1), (19, 1), (21, 1), (23, 1), (25, 1)])]), (0, [], [(0, [(15, -1), (17, 1)])])], [(54, [], [(0, [(0, 1)]), (0, [(1, 1)]), (0, [(2, 1)]), (0, [(3, 1)]), (0, [(4, 1)]), (0, [(5, 1)]), (0, [(6, 1)]), (0, [(7, 1)]), (1, [(8, 1)]), (0, [(9, 1)])])])
-- os_t
def q_l184 : SvM := ([(0, none), (0, none), (0, none), (0, none), (0, none), (0, none), (0, none), (0, none), (-1180591620717411303424, none), (-1180591620717411303424, none), (-1180591620717411303424, none), (-1180591620717411303424, none), (-1180591620717411303424, none)], [(54, [], [(0, [(0, 1)]), (0, [(1, 1)]), (0, [(2, 1)]), (0, [(3, 1)]), (0, [(4, 1)]), (0, [(5, 1)]), (0, [(6, 1)]), (0, [(7, 1)]), (0, [(8, 1)]), (0, [(9, 1)])]), (4, [109, 1], [(0, [(0, 1)]), (0, [(10, 1)]), (0, [(11, 1)])]), (2, [], [(0, [(0, 1)]), (0, [(12, 1)])]), (0, [], [(0, [(10, 1)])]), (0, [], [(-1, [(8, 1), (10, -1)])]), (0, [], [(-1, [(10, -1), (12, 1)])])], [(0, [], [(0, [(11, 1)])]), (0, [], [(-1, [(9, 1), (11, -1)])])])
-- os_f
def q_l185 : SvM := ([(0, none), (0, none), (0, none), (0, none), (0, none), (0, none), (0, none), (0, none), (-1180591620717411303424, none), (-1180591620717411303424, none), (-1180591620717411303424, none), (-1180591620717411303424, none), (-1180591620717411303424, none), (-1180591620717411303424, none), (-1180591620717411303424, none), (-1180591620717411303424, none), (-1180591620717411303424, none), (-1180591620717411303424, none), (-1180591620717411303424, none), (-1180591620717411303424, none), (-1180591620717411303424, none), (-1180591620717411303424, none), (-1180591620717411303424, none)], [(54, [], [(0, [(0, 1)]), (0, [(1, 1)]), (0, [(2, 1)]), (0, [(3, 1)]), (0, [(4, 1)]), (0, [(5, 1)]), (0, [(6, 1)]), (0, [(7, 1)]), (0, [(8, 1)]), (0, [(9, 1)])]), (4, [109, 1], [(0, [(0, 1)]), (0, [(10, 1)]), (0, [(11, 1)])]), (2, [], [(0, [(0, 1)]), (0, [(12, 1)])]), (0, [], [(-1, [(10, -1), (12, 1)])]), (4, [110, 1], [(0, [(1, 1)]), (0, [(10, 1)]), (0, [(13, 1)])]), (2, [], [(0, [(1, 1)]), (0, [(14, 1)])]), (0, [], [(-1, [(10, -1), (14, 1)])]), (0, [], [(0, [(10, 1)])]), (0, [], [(-1, [(8, 1), (10, -1)])]), (0, [], [(0, [(11, 1)])]), (4, [75, 1], [(0, [(4, 1)]), (0, [(11, 1)]), (0, [(15, 1)])]), (2, [], [(0, [(4, 1)]), (0, [(16, 1)])]), (0, [], [(-1, [(11, -1), (16, 1)])]), (4, [76, 1], [(0, [(5, 1)]), (0, [(11, 1)]), (0, [(17, 1)])]), (2, [], [(0, [(5, 1)]), (0, [(18, 1)])]), (0, [], [(-1, [(11, -1), (18, 1)])]), (4, [77, 1], [(0, [(6, 1)]), (0, [(11, 1)]), (0, [(19, 1)])]), (2, [], [(0, [(6, 1)]), (0, [(20, 1)])]), (0, [], [(-1, [(11, -1), (20, 1)])]), (4, [78, 1], [(0, [(7, 1)]), (0, [(11, 1)]), (0, [(21, 1)])]), (2, [], [(0, [(7, 1)]), (0, [(22, 1)])]), (0, [], [(-1, [(11, -1), (22, 1)])])], [(0, [], [(0, [(13, 1)])]), (0, [], [(149, [(13, -1)])]), (0, [], [(-1, [(13, -1), (15, 1), (17, 1), (19, 1), (21, 1)])])])
-- os_g
def q_l186 : SvM := ([(0, none), (0, none), (0, none), (0, none), (0, none), (0, none), (0, none), (0, none), (-1180591620717411303424, none), (-1180591620717411303424, none), (-1180591620717411303424, none), (-1180591620717411303424, none), (-1180591620717411303424, none), (-1180591620717411303424, none), (-1180591620717411303424, none)], [(54, [], [(0, [(0, 1)]), (0, [(1, 1)]), (0, [(2, 1)]), (0, [(3, 1)]), (0, [(4, 1)]), (0, [(5, 1)]), (0, [(6, 1)]), (0, [(7, 1)]), (0, [(8, 1)]), (0, [(9, 1)])]), (4, [109, 1], [(0, [(0, 1)]), (0, [(10, 1)]), (0, [(11, 1)])]), (2, [], [(0, [(0, 1)]), (0, [(12, 1)])]), (0, [], [(-1, [(10, -1), (12, 1)])]), (4, [110, 1], [(0, [(1, 1)]), (0, [(10, 1)]), (0, [(13, 1)])]), (2, [], [(0, [(1, 1)]), (0, [(14, 1)])]), (0, [], [(-1, [(10, -1), (14, 1)])]), (0, [], [(0, [(10, 1)])]), (0, [], [(-1, [(8, 1), (10, -1)])]), (0, [], [(0, [(11, 1)])])], [(0, [], [(0, [(13, 1)])]), (0, [], [(149, [(13, -1)])])])
-- os_e
def q_l187 : SvM := ([(0, none), (0, none), (0, none), (0, none), (0, none), (0, none), (0, none), (0, none), (-1180591620717411303424, none), (-1180591620717411303424, none), (-1180591620717411303424, none), (-1180591620717411303424, none), (-1180591620717411303424, none), (-1180591620717411303424, none), (-1180591620717411303424, none), (-1180591620717411303424, none), (-1180591620717411303424, none), (-1180591620717411303424, none), (-1180591620717411303424, none)], [(54, [], [(0, [(0, 1)]), (0, [(1, 1)]), (0, [(2, 1)]), (0, [(3, 1)]), (0, [(4, 1)]), (0, [(5, 1)]), (0, [(6, 1)]), (0, [(7, 1)]), (0, [(8, 1)]), (0, [(9, 1)])]), (4, [109, 1], [(0, [(0, 1)]), (0, [(10, 1)]), (0, [(11, 1)])]), (2, [], [(0, [(0, 1)]), (0, [(12, 1)])]), (0, [], [(-1, [(10, -1), (12, 1)])]), (4, [110, 1], [(0, [(1, 1)]), (0, [(10, 1)]), (0, [(13, 1)])]), (2, [], [(0, [(1, 1)]), (0, [(14, 1)])]), (0, [], [(-1, [(10, -1), (14, 1)])]), (4, [111, 1], [(0, [(2, 1)]), (0, [(10, 1)]), (0, [(15, 1)])]), (2, [], [(0, [(2, 1)]), (0, [(16, 1)])]), (0, [], [(-1, [(10, -1), (16, 1)])]), (0, [], [(0, [(10, 1)])]), (0, [], [(-1, [(8, 1), (10, -1)])]), (0, [], [(0, [(11, 1)])]), (0, [], [(0, [(13, 1)])]), (4, [84, 1], [(0, [(3, 1)]), (0, [(11, 150), (13, 1)]), (0, [(17, 1)])]), (2, [], [(0, [(3, 1)]), (0, [(18, 1)])]), (0, [], [(-1, [(11, -150), (13, -1), (18, 1)])])], [(0, [], [(0, [(15, -1), (17, 1)])])])
-- pn_k1
def q_l188 : SvM := ([(0, none), (0, none), (-1180591620717411303424, none), (-1180591620717411303424, none), (-1180591620717411303424, none), (-1180591620717411303424, none), (-1180591620717411303424, none), (-1180591620717411303424, none), (-1180591620717411303424, none)], [(1, [114], [(0, [(0, 1)])]), (1, [115], [(0, [(1, 1)])]), (0, [], [(21, [(6, -1)])])], [(56, [], [(0, [(0, 1)]), (0, [(1, 1)]), (0, [(2, 1)]), (0, [(3, 1)]), (0, [(4, 1)]), (0, [(5, 1)]), (0, [(6, 1)]), (0, [(7, 1)]), (0, [(8, 1)])])])
-- pn_k2
def q_l189 : SvM := ([(0, none), (0, none), (-1180591620717411303424, none), (-1180591620717411303424, none), (-1180591620717411303424, none), (-1180591620717411303424, none), (-1180591620717411303424, none), (-1180591620717411303424, none), (-1180591620717411303424, none)], [(1, [114], [(0, [(0, 1)])]), (1, [115], [(0, [(1, 1)])]), (0, [], [(-23, [(6, 1)])])], [(56, [], [(0, [(0, 1)]), (0, [(1, 1)]), (0, [(2, 1)]), (0, [(3, 1)]), (0, [(4, 1)]), (0, [(5, 1)]), (0, [(6, 1)]), (0, [(7, 1)]), (0, [(8, 1)])])])
-- pn_f
def q_l190 : SvM := ([(0, none), (0, none), (-1180591620717411303424, none), (-1180591620717411303424, none), (-1180591620717411303424, none), (-1180591620717411303424, none), (-1180591620717411303424, none), (-1180591620717411303424, none), (-1180591620717411303424, none)], [(1, [114], [(0, [(0, 1)])]), (1, [115], [(0, [(1, 1)])]), (0, [], [(0, [(2, 1), (4, -1)])])], [(56, [], [(0, [(0, 1)]), (0, [(1, 1)]), (0, [(2, 1)]), (0, [(3, 1)]), (0, [(4, 1)]), (0, [(5, 1)]), (0, [(6, 1)]), (0, [(7, 1)]), (0, [(8, 1)])])])
-- pn_1
def q_l191 : SvM := ([(0, none), (0, none), (-1180591620717411303424, none), (-1180591620717411303424, none), (-1180591620717411303424, none), (-1180591620717411303424, none), (-1180591620717411303424, none), (-1180591620717411303424, none), (-1180591620717411303424, none), (-1180591620717411303424, none), (-1180591620717411303424, none), (-1180591620717411303424, none), (-1180591620717411303424, none)], [(4, [114, 1], [(0, [(0, 1)]), (-1, [(2, 1)]), (0, [(9, 1)])]), (2, [], [(0, [(0, 1)]), (0, [(11, 1)])]), (4, [115, 1], [(0, [(1, 1)]), (-1, [(2, 1)]), (0, [(10, 1)])]), (2, [], [(0, [(1, 1)]), (0, [(12, 1)])]), (0, [], [(-1, [(2, 1)])]), (0, [], [(0, [(2, -1), (11, 1)])]), (0, [], [(0, [(2, -1), (12, 1)])]), (0, [], [(0, [(5, 1)])]), (0, [], [(119, [(2, 1), (4, -1)])]), (0, [], [(0, [(9, 1)])]), (0, [], [(0, [(3, 1), (10, -1)])]), (0, [], [(32, [(9, 1), (10, -1)])]), (0, [], [(0, [(7, 1)])]), (0, [], [(0, [(7, -1), (8, 1)])]), (0, [], [(0, [(3, 1), (8, -1)])])], [(56, [], [(0, [(0, 1)]), (0, [(1, 1)]), (0, [(2, 1)]), (0, [(3, 1)]), (0, [(4, 1)]), (0, [(5, 1)]), (0, [(6, 1)]), (0, [(7, 1)]), (0, [(8, 1)])])])
-- pt_0
def q_l192 : SvM := ([(0, none), (0, none), (0, none), (0, none), (0, none), (0, none), (-1180591620717411303424, none)], [(1, [113], [(0, [(0, 1)])]), (1, [114], [(0, [(1, 1)])]), (1, [115], [(0, [(2, 1)])]), (1, [117], [(0, [(3, 1)])]), (1, [111], [(0, [(4, 1)])]), (1, [112], [(0, [(5, 1)])]), (0, [], [(0, [(6, -1)])])], [(55, [], [(0, [(0, 1)]), (0, [(1, 1)]), (0, [(2, 1)]), (0, [(3, 1)]), (0, [(4, 1)]), (0, [(5, 1)]), (0, [(6, 1)])])])
-- pt_a
def q_l193 : SvM := ([(0, none), (0, none), (0, none), (0, none), (0, none), (0, none), (-1180591620717411303424, none), (-1180591620717411303424, none), (-1180591620717411303424, none)], [(55, [], [(0, [(0, 1)]), (0, [(1, 1)]), (0, [(2, 1)]), (0, [(3, 1)]), (0, [(4, 1)]), (0, [(5, 1)]), (0, [(6, 1)])]), (4, [112, 1], [(0, [(5, 1)]), (0, [(6, 1)]), (0, [(7, 1)])]), (2, [], [(0, [(5, 1)]), (0, [(8, 1)])]), (0, [], [(0, [(6, 1)])]), (0, [], [(-1, [(6, -1), (8, 1)])]), (0, [], [(0, [(7, -1)])])], [(55, [], [(0, [(0, 1)]), (0, [(1, 1)]), (0, [(2, 1)]), (0, [(3, 1)]), (0, [(4, 1)]), (0, [(5, 1)]), (1, [(6, 1)])])])
-- pt_1
def q_l194 : SvM := ([(0, none), (0, none), (0, none), (0, none), (0, none), (0, none), (-1180591620717411303424, none), (-1180591620717411303424, none), (-1180591620717411303424, none), (-1180591620717411303424, none), (-1180591620717411303424, none), (-1180591620717411303424, none), (-1180591620717411303424, none)], [(55, [], [(0, [(0, 1)]), (0, [(1, 1)]), (0, [(2, 1)]), (0, [(3, 1)]), (0, [(4, 1)]), (0, [(5, 1)]), (0, [(6, 1)])]), (4, [112, 1], [(0, [(5, 1)]), (0, [(7, 1)]), (0, [(8, 1)])]), (2, [], [(0, [(5, 1)]), (0, [(9, 1)])]), (0, [], [(0, [(7, 1)])]), (0, [], [(-1, [(6, 1), (7, -1)])]), (0, [], [(-1, [(7, -1), (9, 1)])]), (0, [], [(0, [(10, 1)])]), (0, [], [(-1, [(8, 1), (10, -1)])]), (0, [], [(119, [(10, -1)])]), (4, [113, 1], [(0, [(0, 1)]), (0, [(7, 120), (10, 1)]), (0, [(11, 1)])]), (2, [], [(0, [(0, 1)]), (0, [(12, 1)])]), (0, [], [(-1, [(7, -120), (10, -1), (12, 1)])]), (0, [], [(-22, [(11, 1)])]), (0, [], [(22, [(11, -1)])])], [(0, [], [(-1, [(10, 1)])])])
-- pt_2
def q_l195 : SvM := ([(0, none), (0, none), (0, none), (0, none), (0, none), (0, none), (-1180591620717411303424, none), (-1180591620717411303424, none), (-1180591620717411303424, none), (-1180591620717411303424, none), (-1180591620717411303424, none), (-1180591620717411303424, none), (-1180591620717411303424, none), (-1180591620717411303424, none), (-1180591620717411303424, none)], [(55, [], [(0, [(0, 1)]), (0, [(1, 1)]), (0, [(2, 1)]), (0, [(3, 1)]), (0, [(4, 1)]), (0, [(5, 1)]), (0, [(6, 1)])]), (4, [112, 1], [(0, [(5, 1)]), (0, [(7, 1)]), (0, [(8, 1)])]), (2, [], [(0, [(5, 1)]), (0, [(9, 1)])]), (0, [], [(0, [(7, 1)])]), (0, [], [(-1, [(6, 1), (7, -1)])]), (0, [], [(-1, [(7, -1), (9, 1)])]), (0, [], [(0, [(10, 1)])]), (0, [], [(-1, [(8, 1), (10, -1)])]), (0, [], [(119, [(10, -1)])]), (4, [113, 1], [(0, [(0, 1)]), (0, [(7, 120), (10, 1)]), (0, [(11, 1)])]), (2, [], [(0, [(0, 1)]), (0, [(12, 1)])]), (0, [], [(-1, [(7, -120), (10, -1), (12, 1)])]), (0, [], [(-22, [(11, 1)])]), (0, [], [(22, [(11, -1)])]), (4, [117, 1], [(0, [(3, 1)]), (0, [(7, 120), (10, 1)]), (0, [(13, 1)])]), (2, [], [(0, [(3, 1)]), (0, [(14, 1)])]), (0, [], [(-1, [(7, -120), (10, -1), (14, 1)])])], [(0, [], [(0, [(13, 1)])])])
-- pt_3
def q_l196 : SvM := ([(0, none), (0, none), (0, none), (0, none), (0, none), (0, none), (-1180591620717411303424, none), (-1180591620717411303424, none), (-1180591620717411303424, none), (-1180591620717411303424, none), (-1180591620717411303424, none), (-1180591620717411303424, none), (-1180591620717411303424, none), (-1180591620717411303424, none), (-1180591620717411303424, none), (-1180591620717411303424, none), (-1180591620717411303424, none), (-1180591620717411303424, none), (-1180591620717411303424, none)], [(55, [], [(0, [(0, 1)]), (0, [(1, 1)]), (0, [(2, 1)]), (0, [(3, 1)]), (0, [(4, 1)]), (0, [(5, 1)]), (0, [(6, 1)])]), (4, [112, 1], [(0, [(5, 1)]), (0, [(7, 1)]), (0, [(8, 1)])]), (2, [], [(0, [(5, 1)]), (0, [(9, 1)])]), (0, [], [(0, [(7, 1)])]), (0, [], [(-1, [(6, 1), (7, -1)])]), (0, [], [(-1, [(7, -1), (9, 1)])]), (0, [], [(0, [(10, 1)])]), (0, [], [(-1, [(8, 1), (10, -1)])]), (0, [], [(119, [(10, -1)])]), (4, [113, 1], [(0, [(0, 1)]), (0, [(7, 120), (10, 1)]), (0, [(11, 1)])]), (2, [], [(0, [(0, 1)]), (0, [(12, 1)])]), (0, [], [(-1, [(7, -120), (10, -1), (12, 1)])]), (0, [], [(-22, [(11, 1)])]), (0, [], [(22, [(11, -1)])]), (4, [114, 1], [(0, [(1, 1)]), (0, [(7, 120), (10, 1)]), (0, [(13, 1)])]), (2, [], [(0, [(1, 1)]), (0, [(14, 1)])]), (0, [], [(-1, [(7, -120), (10, -1), (14, 1)])]), (4, [115, 1], [(0, [(2, 1)]), (0, [(7, 120), (10, 1)]), (0, [(15, 1)])]), (2, [], [(0, [(2, 1)]), (0, [(16, 1)])]), (0, [], [(-1, [(7, -120), (10, -1), (16, 1)])]), (4, [111, 1], [(0, [(4, 1)]), (0, [(7, 1)]), (0, [(17, 1)])]), (2, [], [(0, [(4, 1)]), (0, [(18, 1)])]), (0, [], [(-1, [(7, -1), (18, 1)])])], [(0, [], [(0, [(13, 1)])]), (0, [], [(0, [(13, -1), (15, 1)])]), (0, [], [(0, [(15, -1), (17, 1)])])])
-- pt_4
def q_l197 : SvM := ([(0, none), (0, none), (0, none), (0, none), (0, none), (0, none), (-1180591620717411303424, none), (-1180591620717411303424, none), (-1180591620717411303424, none), (-1180591620717411303424, none), (-1180591620717411303424, none), (-1180591620717411303424, none), (-1180591620717411303424, none), (-1180591620717411303424, none), (-1180591620717411303424, none), (-1180591620717411303424, none), (-1180591620717411303424, none), (-1180591620717411303424, none), (-1180591620717411303424, none)], [(55, [], [(0, [(0, 1)]), (0, [(1, 1)]), (0, [(2, 1)]), (0, [(3, 1)]), (0, [(4, 1)]), (0, [(5, 1)]), (0, [(6, 1)])]), (4, [112, 1], [(0, [(5, 1)]), (0, [(7, 1)]), (0, [(8, 1)])]), (2, [], [(0, [(5, 1)]), (0, [(9, 1)])]), (0, [], [(0, [(7, 1)])]), (0, [], [(-1, [(6, 1), (7, -1)])]), (0, [], [(-1, [(7, -1), (9, 1)])]), (0, [], [(0, [(10, 1)])]), (0, [], [(-1, [(8, 1), (10, -1)])]), (0, [], [(119, [(10, -1)])]), (4, [113, 1], [(0, [(0, 1)]), (0, [(7, 120), (10, 1)]), (0, [(11, 1)])]), (2, [], [(0, [(0, 1)]), (0, [(12, 1)])]), (0, [], [(-1, [(7, -120), (10, -1), (12, 1)])]), (0, [], [(-22, [(11, 1)])]), (0, [], [(22, [(11, -1)])]), (0, [], [(-1, [(10, 1)])]), (4, [114, 1], [(0, [(1, 1)]), (-1, [(7, 120), (10, 1)]), (0, [(13, 1)])]), (2, [], [(0, [(1, 1)]), (0, [(14, 1)])]), (0, [], [(0, [(7, -120), (10, -1), (14, 1)])]), (4, [115, 1], [(0, [(2, 1)]), (-1, [(7, 120), (10, 1)]), (0, [(15, 1)])]), (2, [], [(0, [(2, 1)]), (0, [(16, 1)])]), (0, [], [(0, [(7, -120), (10, -1), (16, 1)])]), (4, [111, 1], [(0, [(4, 1)]), (0, [(7, 1)]), (0, [(17, 1)])]), (2, [], [(0, [(4, 1)]), (0, [(18, 1)])]), (0, [], [(-1, [(7, -1), (18, 1)])])], [(0, [], [(0, [(13, 1)])]), (0, [], [(0, [(15, -1), (17, 1)])]), (0, [], [(32, [(13, 1), (15, -1)])])])
-- lk_s
def q_m0 : Nat × SvM := (67, ([(0, none), (-1180591620717411303424, none), (-1180591620717411303424, none), (-1180591620717411303424, none), (-1180591620717411303424, none), (-1180591620717411303424, none), (-1180591620717411303424, none)], [(16, [], [(0, [(0, 1)]), (0, [(3, 1)]), (0, [(4, 1)]), (0, [(5, 1)]), (0, [(6, 1)])]), (0, [], [(0, [(1, -1), (4, 1)])]), (0, [], [(0, [(1, 1), (4, -1)])]), (0, [], [(0, [(2, 1), (5, -1)])]), (0, [], [(0, [(2, -1), (6, 1)])])], [(16, [], [(0, [(0, 1)]), (0, [(3, 1)]), (1, [(4, 1)]), (0, [(5, 1)]), (0, [(6, 1)])])]))
theorem q_m0_ok : ∀ (g : Int → Int → Int) (ln : Int → Int) (kf : Int → Nat) (ρ : List Int) (a i x : Int), sv_BOk ρ q_m0.2.1 → (∀ f ∈ q_m0.2.2.1, sv_FQk q_Ks q_Q g ln kf ρ f) → sv_nth ρ 0 = some a → sv_nth ρ 1 = some i → sv_nth ρ 2 = some x → 0 ≤ a → 0 ≤ i → i < ln a → kf a = q_m0.1 → ∀ f ∈ q_m0.2.2.2, sv_FQk q_Ks q_Q (sv_put g a i x) ln kf ρ f := by
  intro g ln kf ρ a i x hb hf n0 n1 n2 p0 p1 p2 p3
  obtain ⟨hl, hb⟩ := hb
  obtain ⟨xa, r0, rfl, l0⟩ := sv_lens hl
  obtain ⟨xi, r1, rfl, l1⟩ := sv_lens l0
  obtain ⟨xx, r2, rfl, l2⟩ := sv_lens l1
  obtain ⟨xlo, r3, rfl, l3⟩ := sv_lens l2
  obtain ⟨xhi, r4, rfl, l4⟩ := sv_lens l3
  obtain ⟨xl, r5, rfl, l5⟩ := sv_lens l4
  obtain ⟨xu, r6, rfl, l6⟩ := sv_lens l5
  obtain rfl := sv_len0 l6
  clear l0 l1 l2 l3 l4 l5 l6 hl
  have ba : 0 ≤ xa := (hb 0 _ _ rfl rfl).1
  clear hb
  obtain rfl : xa = a := by simpa [sv_nth] using n0
  obtain rfl : xi = i := by simpa [sv_nth] using n1
  obtain rfl : xx = x := by simpa [sv_nth] using n2
  clear n0 n1 n2
  have p3 : kf xa = 67 := p3
  have h0 := hf _ (List.mem_of_getElem? (i := 0) rfl)
  simp [sv_FQk, sv_FQ, sv_evs, sv_ev, sv_evT, sv_nth, sv_adq, sv_gs, q_Ks, q_Q] at h0
  have h1 := hf _ (List.mem_of_getElem? (i := 1) rfl)
  simp [sv_FQk, sv_FQ, sv_evs, sv_ev, sv_evT, sv_nth, sv_adq, sv_gs, q_Ks, q_Q] at h1
  have h2 := hf _ (List.mem_of_getElem? (i := 2) rfl)
  simp [sv_FQk, sv_FQ, sv_evs, sv_ev, sv_evT, sv_nth, sv_adq, sv_gs, q_Ks, q_Q] at h2
  have h3 := hf _ (List.mem_of_getElem? (i := 3) rfl)
  simp [sv_FQk, sv_FQ, sv_evs, sv_ev, sv_evT, sv_nth, sv_adq, sv_gs, q_Ks, q_Q] at h3
  have h4 := hf _ (List.mem_of_getElem? (i := 4) rfl)
  simp [sv_FQk, sv_FQ, sv_evs, sv_ev, sv_evT, sv_nth, sv_adq, sv_gs, q_Ks, q_Q] at h4
  clear hf
  obtain ⟨⟨-, ka⟩, h0⟩ := h0
  rw [sv_Qlin_iff] at h0
  intro f hf
  have hf : f ∈ [(16, [], [(0, [(0, 1)]), (0, [(3, 1)]), (1, [(4, 1)]), (0, [(5, 1)]), (0, [(6, 1)])])] := hf
  simp only [List.mem_cons, List.not_mem_nil, or_false] at hf
  subst hf
  · simp [sv_FQk, sv_FQ, sv_evs, sv_ev, sv_evT, sv_nth, sv_adq, sv_gs, q_Ks, q_Q]
    refine ⟨⟨ba, ka⟩, ?_⟩
    rw [sv_Qlin_iff]
    simp only [sv_put_eq]
    intro j j1 j2
    by_cases e : j = xi
    · rw [if_pos e]
      omega
    · rw [if_neg e]
      exact h0 j j1 (by omega)
-- lk_k
def q_m1 : Nat × SvM := (67, ([(0, none), (-1180591620717411303424, none), (-1180591620717411303424, none), (-1180591620717411303424, none), (-1180591620717411303424, none), (-1180591620717411303424, none), (-1180591620717411303424, none)], [(16, [], [(0, [(0, 1)]), (0, [(3, 1)]), (0, [(4, 1)]), (0, [(5, 1)]), (0, [(6, 1)])]), (0, [], [(0, [(2, 1), (5, -1)])]), (0, [], [(0, [(2, -1), (6, 1)])])], [(16, [], [(0, [(0, 1)]), (0, [(3, 1)]), (0, [(4, 1)]), (0, [(5, 1)]), (0, [(6, 1)])])]))
theorem q_m1_ok : ∀ (g : Int → Int → Int) (ln : Int → Int) (kf : Int → Nat) (ρ : List Int) (a i x : Int), sv_BOk ρ q_m1.2.1 → (∀ f ∈ q_m1.2.2.1, sv_FQk q_Ks q_Q g ln kf ρ f) → sv_nth ρ 0 = some a → sv_nth ρ 1 = some i → sv_nth ρ 2 = some x → 0 ≤ a → 0 ≤ i → i < ln a → kf a = q_m1.1 → ∀ f ∈ q_m1.2.2.2, sv_FQk q_Ks q_Q (sv_put g a i x) ln kf ρ f := by
  intro g ln kf ρ a i x hb hf n0 n1 n2 p0 p1 p2 p3
  obtain ⟨hl, hb⟩ := hb
  obtain ⟨xa, r0, rfl, l0⟩ := sv_lens hl
  obtain ⟨xi, r1, rfl, l1⟩ := sv_lens l0
  obtain ⟨xx, r2, rfl, l2⟩ := sv_lens l1
  obtain ⟨xlo, r3, rfl, l3⟩ := sv_lens l2
  obtain ⟨xhi, r4, rfl, l4⟩ := sv_lens l3
  obtain ⟨xl, r5, rfl, l5⟩ := sv_lens l4
  obtain ⟨xu, r6, rfl, l6⟩ := sv_lens l5
  obtain rfl := sv_len0 l6
  clear l0 l1 l2 l3 l4 l5 l6 hl
  have ba : 0 ≤ xa := (hb 0 _ _ rfl rfl).1
  clear hb
  obtain rfl : xa = a := by simpa [sv_nth] using n0
  obtain rfl : xi = i := by simpa [sv_nth] using n1
  obtain rfl : xx = x := by simpa [sv_nth] using n2
  clear n0 n1 n2
  have p3 : kf xa = 67 := p3
  have h0 := hf _ (List.mem_of_getElem? (i := 0) rfl)
  simp [sv_FQk, sv_FQ, sv_evs, sv_ev, sv_evT, sv_nth, sv_adq, sv_gs, q_Ks, q_Q] at h0
  have h1 := hf _ (List.mem_of_getElem? (i := 1) rfl)
  simp [sv_FQk, sv_FQ, sv_evs, sv_ev, sv_evT, sv_nth, sv_adq, sv_gs, q_Ks, q_Q] at h1
  have h2 := hf _ (List.mem_of_getElem? (i := 2) rfl)
  simp [sv_FQk, sv_FQ, sv_evs, sv_ev, sv_evT, sv_nth, sv_adq, sv_gs, q_Ks, q_Q] at h2
  clear hf
  obtain ⟨⟨-, ka⟩, h0⟩ := h0
  rw [sv_Qlin_iff] at h0
  intro f hf
  have hf : f ∈ [(16, [], [(0, [(0, 1)]), (0, [(3, 1)]), (0, [(4, 1)]), (0, [(5, 1)]), (0, [(6, 1)])])] := hf
  simp only [List.mem_cons, List.not_mem_nil, or_false] at hf
  subst hf
  · simp [sv_FQk, sv_FQ, sv_evs, sv_ev, sv_evT, sv_nth, sv_adq, sv_gs, q_Ks, q_Q]
    refine ⟨⟨ba, ka⟩, ?_⟩
    rw [sv_Qlin_iff]
    simp only [sv_put_eq]
    intro j j1 j2
    by_cases e : j = xi
    · rw [if_pos e, e]
      omega
    · rw [if_neg e]
      exact h0 j j1 j2
-- lk_o
def q_m2 : Nat × SvM := (67, ([(0, none), (-1180591620717411303424, none), (-1180591620717411303424, none), (-1180591620717411303424, none), (-1180591620717411303424, none), (-1180591620717411303424, none), (-1180591620717411303424, none)], [(16, [], [(0, [(0, 1)]), (0, [(3, 1)]), (0, [(4, 1)]), (0, [(5, 1)]), (0, [(6, 1)])]), (0, [], [(0, [(1, 1), (4, -1)])])], [(16, [], [(0, [(0, 1)]), (0, [(3, 1)]), (0, [(4, 1)]), (0, [(5, 1)]), (0, [(6, 1)])])]))
theorem q_m2_ok : ∀ (g : Int → Int → Int) (ln : Int → Int) (kf : Int → Nat) (ρ : List Int) (a i x : Int), sv_BOk ρ q_m2.2.1 → (∀ f ∈ q_m2.2.2.1, sv_FQk q_Ks q_Q g ln kf ρ f) → sv_nth ρ 0 = some a → sv_nth ρ 1 = some i → sv_nth ρ 2 = some x → 0 ≤ a → 0 ≤ i → i < ln a → kf a = q_m2.1 → ∀ f ∈ q_m2.2.2.2, sv_FQk q_Ks q_Q (sv_put g a i x) ln kf ρ f := by
  intro g ln kf ρ a i x hb hf n0 n1 n2 p0 p1 p2 p3
  obtain ⟨hl, hb⟩ := hb
  obtain ⟨xa, r0, rfl, l0⟩ := sv_lens hl
  obtain ⟨xi, r1, rfl, l1⟩ := sv_lens l0
  obtain ⟨xx, r2, rfl, l2⟩ := sv_lens l1
  obtain ⟨xlo, r3, rfl, l3⟩ := sv_lens l2
  obtain ⟨xhi, r4, rfl, l4⟩ := sv_lens l3
  obtain ⟨xl, r5, rfl, l5⟩ := sv_lens l4
  obtain ⟨xu, r6, rfl, l6⟩ := sv_lens l5
  obtain rfl := sv_len0 l6
  clear l0 l1 l2 l3 l4 l5 l6 hl
  have ba : 0 ≤ xa := (hb 0 _ _ rfl rfl).1
  clear hb
  obtain rfl : xa = a := by simpa [sv_nth] using n0
  obtain rfl : xi = i := by simpa [sv_nth] using n1
  obtain rfl : xx = x := by simpa [sv_nth] using n2
  clear n0 n1 n2
  have p3 : kf xa = 67 := p3
  have h0 := hf _ (List.mem_of_getElem? (i := 0) rfl)
  simp [sv_FQk, sv_FQ, sv_evs, sv_ev, sv_evT, sv_nth, sv_adq, sv_gs, q_Ks, q_Q] at h0
  have h1 := hf _ (List.mem_of_getElem? (i := 1) rfl)
  simp [sv_FQk, sv_FQ, sv_evs, sv_ev, sv_evT, sv_nth, sv_adq, sv_gs, q_Ks, q_Q] at h1
  clear hf
  obtain ⟨⟨-, ka⟩, h0⟩ := h0
  rw [sv_Qlin_iff] at h0
  intro f hf
  have hf : f ∈ [(16, [], [(0, [(0, 1)]), (0, [(3, 1)]), (0, [(4, 1)]), (0, [(5, 1)]), (0, [(6, 1)])])] := hf
  simp only [List.mem_cons, List.not_mem_nil, or_false] at hf
  subst hf
  · simp [sv_FQk, sv_FQ, sv_evs, sv_ev, sv_evT, sv_nth, sv_adq, sv_gs, q_Ks, q_Q]
    refine ⟨⟨ba, ka⟩, ?_⟩
    rw [sv_Qlin_iff]
    simp only [sv_put_eq]
    intro j j1 j2
    rw [if_neg (by omega)]
    exact h0 j j1 j2
-- lk_p
def q_m3 : Nat × SvM := (67, ([(0, none), (-1180591620717411303424, none), (-1180591620717411303424, none), (-1180591620717411303424, none), (-1180591620717411303424, none), (-1180591620717411303424, none), (-1180591620717411303424, none)], [(16, [], [(0, [(0, 1)]), (0, [(3, 1)]), (0, [(4, 1)]), (0, [(5, 1)]), (0, [(6, 1)])]), (0, [], [(-1, [(1, -1), (3, 1)])])], [(16, [], [(0, [(0, 1)]), (0, [(3, 1)]), (0, [(4, 1)]), (0, [(5, 1)]), (0, [(6, 1)])])]))
theorem q_m3_ok : ∀ (g : Int → Int → Int) (ln : Int → Int) (kf : Int → Nat) (ρ : List Int) (a i x : Int), sv_BOk ρ q_m3.2.1 → (∀ f ∈ q_m3.2.2.1, sv_FQk q_Ks q_Q g ln kf ρ f) → sv_nth ρ 0 = some a → sv_nth ρ 1 = some i → sv_nth ρ 2 = some x → 0 ≤ a → 0 ≤ i → i < ln a → kf a = q_m3.1 → ∀ f ∈ q_m3.2.2.2, sv_FQk q_Ks q_Q (sv_put g a i x) ln kf ρ f := by
  intro g ln kf ρ a i x hb hf n0 n1 n2 p0 p1 p2 p3
  obtain ⟨hl, hb⟩ := hb
  obtain ⟨xa, r0, rfl, l0⟩ := sv_lens hl
  obtain ⟨xi, r1, rfl, l1⟩ := sv_lens l0
  obtain ⟨xx, r2, rfl, l2⟩ := sv_lens l1
  obtain ⟨xlo, r3, rfl, l3⟩ := sv_lens l2
  obtain ⟨xhi, r4, rfl, l4⟩ := sv_lens l3
  obtain ⟨xl, r5, rfl, l5⟩ := sv_lens l4
  obtain ⟨xu, r6, rfl, l6⟩ := sv_lens l5
  obtain rfl := sv_len0 l6
  clear l0 l1 l2 l3 l4 l5 l6 hl
  have ba : 0 ≤ xa := (hb 0 _ _ rfl rfl).1
  clear hb
  obtain rfl : xa = a := by simpa [sv_nth] using n0
  obtain rfl : xi = i := by simpa [sv_nth] using n1
  obtain rfl : xx = x := by simpa [sv_nth] using n2
  clear n0 n1 n2
  have p3 : kf xa = 67 := p3
  have h0 := hf _ (List.mem_of_getElem? (i := 0) rfl)
  simp [sv_FQk, sv_FQ, sv_evs, sv_ev, sv_evT, sv_nth, sv_adq, sv_gs, q_Ks, q_Q] at h0
  have h1 := hf _ (List.mem_of_getElem? (i := 1) rfl)
  simp [sv_FQk, sv_FQ, sv_evs, sv_ev, sv_evT, sv_nth, sv_adq, sv_gs, q_Ks, q_Q] at h1
  clear hf
  obtain ⟨⟨-, ka⟩, h0⟩ := h0
  rw [sv_Qlin_iff] at h0
  intro f hf
  have hf : f ∈ [(16, [], [(0, [(0, 1)]), (0, [(3, 1)]), (0, [(4, 1)]), (0, [(5, 1)]), (0, [(6, 1)])])] := hf
  simp only [List.mem_cons, List.not_mem_nil, or_false] at hf
  subst hf
  · simp [sv_FQk, sv_FQ, sv_evs, sv_ev, sv_evT, sv_nth, sv_adq, sv_gs, q_Ks, q_Q]
    refine ⟨⟨ba, ka⟩, ?_⟩
    rw [sv_Qlin_iff]
    simp only [sv_put_eq]
    intro j j1 j2
    rw [if_neg (by omega)]
    exact h0 j j1 j2
-- ds_s
def q_m4 : Nat × SvM := (67, ([(0, none), (-1180591620717411303424, none), (-1180591620717411303424, none), (-1180591620717411303424, none)], [(17, [], [(0, [(0, 1)]), (0, [(3, 1)])]), (18, [], [(0, [(0, 1)]), (0, [(3, 1)]), (0, [(2, 1)])]), (0, [], [(0, [(1, -1), (3, 1)])]), (0, [], [(0, [(1, 1), (3, -1)])]), (0, [], [(0, [(3, 1)])])], [(17, [], [(0, [(0, 1)]), (1, [(3, 1)])])]))
theorem q_m4_ok : ∀ (g : Int → Int → Int) (ln : Int → Int) (kf : Int → Nat) (ρ : List Int) (a i x : Int), sv_BOk ρ q_m4.2.1 → (∀ f ∈ q_m4.2.2.1, sv_FQk q_Ks q_Q g ln kf ρ f) → sv_nth ρ 0 = some a → sv_nth ρ 1 = some i → sv_nth ρ 2 = some x → 0 ≤ a → 0 ≤ i → i < ln a → kf a = q_m4.1 → ∀ f ∈ q_m4.2.2.2, sv_FQk q_Ks q_Q (sv_put g a i x) ln kf ρ f := by
  intro g ln kf ρ a i x hb hf n0 n1 n2 p0 p1 p2 p3
  obtain ⟨hl, hb⟩ := hb
  obtain ⟨xa, r0, rfl, l0⟩ := sv_lens hl
  obtain ⟨xi, r1, rfl, l1⟩ := sv_lens l0
  obtain ⟨xx, r2, rfl, l2⟩ := sv_lens l1
  obtain ⟨xn, r3, rfl, l3⟩ := sv_lens l2
  obtain rfl := sv_len0 l3
  clear l0 l1 l2 l3 hl
  have ba : 0 ≤ xa := (hb 0 _ _ rfl rfl).1
  clear hb
  obtain rfl : xa = a := by simpa [sv_nth] using n0
  obtain rfl : xi = i := by simpa [sv_nth] using n1
  obtain rfl : xx = x := by simpa [sv_nth] using n2
  clear n0 n1 n2
  have p3 : kf xa = 67 := p3
  have h0 := hf _ (List.mem_of_getElem? (i := 0) rfl)
  simp [sv_FQk, sv_FQ, sv_evs, sv_ev, sv_evT, sv_nth, sv_adq, sv_gs, q_Ks, q_Q] at h0
  have h1 := hf _ (List.mem_of_getElem? (i := 1) rfl)
  simp [sv_FQk, sv_FQ, sv_evs, sv_ev, sv_evT, sv_nth, sv_adq, sv_gs, q_Ks, q_Q] at h1
  have h2 := hf _ (List.mem_of_getElem? (i := 2) rfl)
  simp [sv_FQk, sv_FQ, sv_evs, sv_ev, sv_evT, sv_nth, sv_adq, sv_gs, q_Ks, q_Q] at h2
  have h3 := hf _ (List.mem_of_getElem? (i := 3) rfl)
  simp [sv_FQk, sv_FQ, sv_evs, sv_ev, sv_evT, sv_nth, sv_adq, sv_gs, q_Ks, q_Q] at h3
  have h4 := hf _ (List.mem_of_getElem? (i := 4) rfl)
  simp [sv_FQk, sv_FQ, sv_evs, sv_ev, sv_evT, sv_nth, sv_adq, sv_gs, q_Ks, q_Q] at h4
  clear hf
  obtain ⟨⟨-, ka⟩, h0⟩ := h0
  rw [sv_Qds_iff] at h0
  obtain ⟨⟨-, ka⟩, h1⟩ := h1
  rw [sv_Qni_iff] at h1
  intro f hf
  have hf : f ∈ [(17, [], [(0, [(0, 1)]), (1, [(3, 1)])])] := hf
  simp only [List.mem_cons, List.not_mem_nil, or_false] at hf
  subst hf
  · simp [sv_FQk, sv_FQ, sv_evs, sv_ev, sv_evT, sv_nth, sv_adq, sv_gs, q_Ks, q_Q]
    refine ⟨⟨ba, ka⟩, ?_⟩
    rw [sv_Qds_iff]
    simp only [sv_put_eq]
    intro i j i1 i2 i3
    rw [if_neg (by omega : ¬ i = xi)]
    by_cases e : j = xi
    · rw [if_pos e]
      exact h1 i i1 (by omega)
    · rw [if_neg e]
      exact h0 i j i1 i2 (by omega)
-- ds_o
def q_m5 : Nat × SvM := (67, ([(0, none), (-1180591620717411303424, none), (-1180591620717411303424, none), (-1180591620717411303424, none)], [(17, [], [(0, [(0, 1)]), (0, [(3, 1)])]), (0, [], [(0, [(1, 1), (3, -1)])])], [(17, [], [(0, [(0, 1)]), (0, [(3, 1)])])]))
theorem q_m5_ok : ∀ (g : Int → Int → Int) (ln : Int → Int) (kf : Int → Nat) (ρ : List Int) (a i x : Int), sv_BOk ρ q_m5.2.1 → (∀ f ∈ q_m5.2.2.1, sv_FQk q_Ks q_Q g ln kf ρ f) → sv_nth ρ 0 = some a → sv_nth ρ 1 = some i → sv_nth ρ 2 = some x → 0 ≤ a → 0 ≤ i → i < ln a → kf a = q_m5.1 → ∀ f ∈ q_m5.2.2.2, sv_FQk q_Ks q_Q (sv_put g a i x) ln kf ρ f := by
  intro g ln kf ρ a i x hb hf n0 n1 n2 p0 p1 p2 p3
  obtain ⟨hl, hb⟩ := hb
  obtain ⟨xa, r0, rfl, l0⟩ := sv_lens hl
  obtain ⟨xi, r1, rfl, l1⟩ := sv_lens l0
  obtain ⟨xx, r2, rfl, l2⟩ := sv_lens l1
  obtain ⟨xn, r3, rfl, l3⟩ := sv_lens l2
  obtain rfl := sv_len0 l3
  clear l0 l1 l2 l3 hl
  have ba : 0 ≤ xa := (hb 0 _ _ rfl rfl).1
  clear hb
  obtain rfl : xa = a := by simpa [sv_nth] using n0
  obtain rfl : xi = i := by simpa [sv_nth] using n1
  obtain rfl : xx = x := by simpa [sv_nth] using n2
  clear n0 n1 n2
  have p3 : kf xa = 67 := p3
  have h0 := hf _ (List.mem_of_getElem? (i := 0) rfl)
  simp [sv_FQk, sv_FQ, sv_evs, sv_ev, sv_evT, sv_nth, sv_adq, sv_gs, q_Ks, q_Q] at h0
  have h1 := hf _ (List.mem_of_getElem? (i := 1) rfl)
  simp [sv_FQk, sv_FQ, sv_evs, sv_ev, sv_evT, sv_nth, sv_adq, sv_gs, q_Ks, q_Q] at h1
  clear hf
  obtain ⟨⟨-, ka⟩, h0⟩ := h0
  rw [sv_Qds_iff] at h0
  intro f hf
  have hf : f ∈ [(17, [], [(0, [(0, 1)]), (0, [(3, 1)])])] := hf
  simp only [List.mem_cons, List.not_mem_nil, or_false] at hf
  subst hf
  · simp [sv_FQk, sv_FQ, sv_evs, sv_ev, sv_evT, sv_nth, sv_adq, sv_gs, q_Ks, q_Q]
    refine ⟨⟨ba, ka⟩, ?_⟩
    rw [sv_Qds_iff]
    simp only [sv_put_eq]
    intro i j i1 i2 i3
    rw [if_neg (by omega : ¬ i = xi), if_neg (by omega : ¬ j = xi)]
    exact h0 i j i1 i2 i3
-- nm_s1
def q_m6 : Nat × SvM := (65, ([(0, none), (-1180591620717411303424, none), (-1180591620717411303424, none), (0, none), (-1180591620717411303424, none), (-1180591620717411303424, none), (-1180591620717411303424, none), (-1180591620717411303424, none), (-1180591620717411303424, none), (-1180591620717411303424, none)], [(19, [], [(0, [(0, 1)]), (0, [(3, 1)]), (0, [(6, 1)]), (0, [(7, 1)]), (0, [(8, 1)]), (0, [(9, 1)])]), (4, [66, 1], [(0, [(3, 1)]), (0, [(1, 1)]), (0, [(4, 1)])]), (2, [], [(0, [(3, 1)]), (0, [(5, 1)])]), (0, [], [(0, [(1, 1)])]), (0, [], [(-1, [(1, -1), (5, 1)])]), (0, [], [(0, [(1, -1), (7, 1)])]), (0, [], [(0, [(1, 1), (7, -1)])]), (0, [], [(0, [(2, -1), (4, 1), (8, -1)])]), (0, [], [(0, [(2, 1), (4, -1), (9, 1)])])], [(19, [], [(0, [(0, 1)]), (0, [(3, 1)]), (0, [(6, 1)]), (1, [(7, 1)]), (0, [(8, 1)]), (0, [(9, 1)])])]))
theorem q_m6_ok : ∀ (g : Int → Int → Int) (ln : Int → Int) (kf : Int → Nat) (ρ : List Int) (a i x : Int), sv_BOk ρ q_m6.2.1 → (∀ f ∈ q_m6.2.2.1, sv_FQk q_Ks q_Q g ln kf ρ f) → sv_nth ρ 0 = some a → sv_nth ρ 1 = some i → sv_nth ρ 2 = some x → 0 ≤ a → 0 ≤ i → i < ln a → kf a = q_m6.1 → ∀ f ∈ q_m6.2.2.2, sv_FQk q_Ks q_Q (sv_put g a i x) ln kf ρ f := by
  intro g ln kf ρ a i x hb hf n0 n1 n2 p0 p1 p2 p3
  obtain ⟨hl, hb⟩ := hb
  obtain ⟨xa, r0, rfl, l0⟩ := sv_lens hl
  obtain ⟨xi, r1, rfl, l1⟩ := sv_lens l0
  obtain ⟨xx, r2, rfl, l2⟩ := sv_lens l1
  obtain ⟨xb, r3, rfl, l3⟩ := sv_lens l2
  obtain ⟨xy, r4, rfl, l4⟩ := sv_lens l3
  obtain ⟨xM, r5, rfl, l5⟩ := sv_lens l4
  obtain ⟨xlo, r6, rfl, l6⟩ := sv_lens l5
  obtain ⟨xhi, r7, rfl, l7⟩ := sv_lens l6
  obtain ⟨xl, r8, rfl, l8⟩ := sv_lens l7
  obtain ⟨xu, r9, rfl, l9⟩ := sv_lens l8
  obtain rfl := sv_len0 l9
  clear l0 l1 l2 l3 l4 l5 l6 l7 l8 l9 hl
  have ba : 0 ≤ xa := (hb 0 _ _ rfl rfl).1
  have bb : 0 ≤ xb := (hb 3 _ _ rfl rfl).1
  clear hb
  obtain rfl : xa = a := by simpa [sv_nth] using n0
  obtain rfl : xi = i := by simpa [sv_nth] using n1
  obtain rfl : xx = x := by simpa [sv_nth] using n2
  clear n0 n1 n2
  have p3 : kf xa = 65 := p3
  have h0 := hf _ (List.mem_of_getElem? (i := 0) rfl)
  simp [sv_FQk, sv_FQ, sv_evs, sv_ev, sv_evT, sv_nth, sv_adq, sv_gs, q_Ks, q_Q] at h0
  have h1 := hf _ (List.mem_of_getElem? (i := 1) rfl)
  simp [sv_FQk, sv_FQ, sv_evs, sv_ev, sv_evT, sv_nth, sv_adq, sv_gs, q_Ks, q_Q] at h1
  have h2 := hf _ (List.mem_of_getElem? (i := 2) rfl)
  simp [sv_FQk, sv_FQ, sv_evs, sv_ev, sv_evT, sv_nth, sv_adq, sv_gs, q_Ks, q_Q] at h2
  have h3 := hf _ (List.mem_of_getElem? (i := 3) rfl)
  simp [sv_FQk, sv_FQ, sv_evs, sv_ev, sv_evT, sv_nth, sv_adq, sv_gs, q_Ks, q_Q] at h3
  have h4 := hf _ (List.mem_of_getElem? (i := 4) rfl)
  simp [sv_FQk, sv_FQ, sv_evs, sv_ev, sv_evT, sv_nth, sv_adq, sv_gs, q_Ks, q_Q] at h4
  have h5 := hf _ (List.mem_of_getElem? (i := 5) rfl)
  simp [sv_FQk, sv_FQ, sv_evs, sv_ev, sv_evT, sv_nth, sv_adq, sv_gs, q_Ks, q_Q] at h5
  have h6 := hf _ (List.mem_of_getElem? (i := 6) rfl)
  simp [sv_FQk, sv_FQ, sv_evs, sv_ev, sv_evT, sv_nth, sv_adq, sv_gs, q_Ks, q_Q] at h6
  have h7 := hf _ (List.mem_of_getElem? (i := 7) rfl)
  simp [sv_FQk, sv_FQ, sv_evs, sv_ev, sv_evT, sv_nth, sv_adq, sv_gs, q_Ks, q_Q] at h7
  have h8 := hf _ (List.mem_of_getElem? (i := 8) rfl)
  simp [sv_FQk, sv_FQ, sv_evs, sv_ev, sv_evT, sv_nth, sv_adq, sv_gs, q_Ks, q_Q] at h8
  clear hf
  obtain ⟨⟨⟨-, ka⟩, ⟨-, kb⟩⟩, h0⟩ := h0
  rw [sv_Qlin2_iff] at h0
  replace h1 := h1 bb (by omega) (by have := h2 bb; omega)
  have eb : sv_put g xa xi xx xb = g xb := sv_put_ne (sv_kf_ne kb p3 (by decide))
  intro f hf
  have hf : f ∈ [(19, [], [(0, [(0, 1)]), (0, [(3, 1)]), (0, [(6, 1)]), (1, [(7, 1)]), (0, [(8, 1)]), (0, [(9, 1)])])] := hf
  simp only [List.mem_cons, List.not_mem_nil, or_false] at hf
  subst hf
  · simp [sv_FQk, sv_FQ, sv_evs, sv_ev, sv_evT, sv_nth, sv_adq, sv_gs, q_Ks, q_Q]
    refine ⟨⟨⟨ba, ka⟩, ⟨bb, kb⟩⟩, ?_⟩
    rw [sv_Qlin2_iff]
    simp only [sv_put_eq, eb]
    intro j j1 j2
    by_cases e : j = xi
    · rw [if_pos e, e, h1]
      omega
    · rw [if_neg e]
      exact h0 j j1 (by omega)
-- nm_s2
def q_m7 : Nat × SvM := (66, ([(0, none), (-1180591620717411303424, none), (-1180591620717411303424, none), (0, none), (-1180591620717411303424, none), (-1180591620717411303424, none), (-1180591620717411303424, none), (-1180591620717411303424, none), (-1180591620717411303424, none), (-1180591620717411303424, none)], [(19, [], [(0, [(3, 1)]), (0, [(0, 1)]), (0, [(6, 1)]), (0, [(7, 1)]), (0, [(8, 1)]), (0, [(9, 1)])]), (4, [65, 1], [(0, [(3, 1)]), (0, [(1, 1)]), (0, [(4, 1)])]), (2, [], [(0, [(3, 1)]), (0, [(5, 1)])]), (0, [], [(0, [(1, 1)])]), (0, [], [(-1, [(1, -1), (5, 1)])]), (0, [], [(0, [(1, -1), (7, 1)])]), (0, [], [(0, [(1, 1), (7, -1)])]), (0, [], [(0, [(2, 1), (4, -1), (8, -1)])]), (0, [], [(0, [(2, -1), (4, 1), (9, 1)])])], [(19, [], [(0, [(3, 1)]), (0, [(0, 1)]), (0, [(6, 1)]), (1, [(7, 1)]), (0, [(8, 1)]), (0, [(9, 1)])])]))
theorem q_m7_ok : ∀ (g : Int → Int → Int) (ln : Int → Int) (kf : Int → Nat) (ρ : List Int) (a i x : Int), sv_BOk ρ q_m7.2.1 → (∀ f ∈ q_m7.2.2.1, sv_FQk q_Ks q_Q g ln kf ρ f) → sv_nth ρ 0 = some a → sv_nth ρ 1 = some i → sv_nth ρ 2 = some x → 0 ≤ a → 0 ≤ i → i < ln a → kf a = q_m7.1 → ∀ f ∈ q_m7.2.2.2, sv_FQk q_Ks q_Q (sv_put g a i x) ln kf ρ f := by
  intro g ln kf ρ a i x hb hf n0 n1 n2 p0 p1 p2 p3
  obtain ⟨hl, hb⟩ := hb
  obtain ⟨xb, r0, rfl, l0⟩ := sv_lens hl
  obtain ⟨xi, r1, rfl, l1⟩ := sv_lens l0
  obtain ⟨xy, r2, rfl, l2⟩ := sv_lens l1
  obtain ⟨xa, r3, rfl, l3⟩ := sv_lens l2
  obtain ⟨xx, r4, rfl, l4⟩ := sv_lens l3
  obtain ⟨xN, r5, rfl, l5⟩ := sv_lens l4
  obtain ⟨xlo, r6, rfl, l6⟩ := sv_lens l5
  obtain ⟨xhi, r7, rfl, l7⟩ := sv_lens l6
  obtain ⟨xl, r8, rfl, l8⟩ := sv_lens l7
  obtain ⟨xu, r9, rfl, l9⟩ := sv_lens l8
  obtain rfl := sv_len0 l9
  clear l0 l1 l2 l3 l4 l5 l6 l7 l8 l9 hl
  have bb : 0 ≤ xb := (hb 0 _ _ rfl rfl).1
  have ba : 0 ≤ xa := (hb 3 _ _ rfl rfl).1
  clear hb
  obtain rfl : xb = a := by simpa [sv_nth] using n0
  obtain rfl : xi = i := by simpa [sv_nth] using n1
  obtain rfl : xy = x := by simpa [sv_nth] using n2
  clear n0 n1 n2
  have p3 : kf xb = 66 := p3
  have h0 := hf _ (List.mem_of_getElem? (i := 0) rfl)
  simp [sv_FQk, sv_FQ, sv_evs, sv_ev, sv_evT, sv_nth, sv_adq, sv_gs, q_Ks, q_Q] at h0
  have h1 := hf _ (List.mem_of_getElem? (i := 1) rfl)
  simp [sv_FQk, sv_FQ, sv_evs, sv_ev, sv_evT, sv_nth, sv_adq, sv_gs, q_Ks, q_Q] at h1
  have h2 := hf _ (List.mem_of_getElem? (i := 2) rfl)
  simp [sv_FQk, sv_FQ, sv_evs, sv_ev, sv_evT, sv_nth, sv_adq, sv_gs, q_Ks, q_Q] at h2
  have h3 := hf _ (List.mem_of_getElem? (i := 3) rfl)
  simp [sv_FQk, sv_FQ, sv_evs, sv_ev, sv_evT, sv_nth, sv_adq, sv_gs, q_Ks, q_Q] at h3
  have h4 := hf _ (List.mem_of_getElem? (i := 4) rfl)
  simp [sv_FQk, sv_FQ, sv_evs, sv_ev, sv_evT, sv_nth, sv_adq, sv_gs, q_Ks, q_Q] at h4
  have h5 := hf _ (List.mem_of_getElem? (i := 5) rfl)
  simp [sv_FQk, sv_FQ, sv_evs, sv_ev, sv_evT, sv_nth, sv_adq, sv_gs, q_Ks, q_Q] at h5
  have h6 := hf _ (List.mem_of_getElem? (i := 6) rfl)
  simp [sv_FQk, sv_FQ, sv_evs, sv_ev, sv_evT, sv_nth, sv_adq, sv_gs, q_Ks, q_Q] at h6
  have h7 := hf _ (List.mem_of_getElem? (i := 7) rfl)
  simp [sv_FQk, sv_FQ, sv_evs, sv_ev, sv_evT, sv_nth, sv_adq, sv_gs, q_Ks, q_Q] at h7
  have h8 := hf _ (List.mem_of_getElem? (i := 8) rfl)
  simp [sv_FQk, sv_FQ, sv_evs, sv_ev, sv_evT, sv_nth, sv_adq, sv_gs, q_Ks, q_Q] at h8
  clear hf
  obtain ⟨⟨⟨-, ka⟩, ⟨-, kb⟩⟩, h0⟩ := h0
  rw [sv_Qlin2_iff] at h0
  replace h1 := h1 ba (by omega) (by have := h2 ba; omega)
  have ea : sv_put g xb xi xy xa = g xa := sv_put_ne (sv_kf_ne ka p3 (by decide))
  intro f hf
  have hf : f ∈ [(19, [], [(0, [(3, 1)]), (0, [(0, 1)]), (0, [(6, 1)]), (1, [(7, 1)]), (0, [(8, 1)]), (0, [(9, 1)])])] := hf
  simp only [List.mem_cons, List.not_mem_nil, or_false] at hf
  subst hf
  · simp [sv_FQk, sv_FQ, sv_evs, sv_ev, sv_evT, sv_nth, sv_adq, sv_gs, q_Ks, q_Q]
    refine ⟨⟨⟨ba, ka⟩, ⟨bb, kb⟩⟩, ?_⟩
    rw [sv_Qlin2_iff]
    simp only [sv_put_eq, ea]
    intro j j1 j2
    by_cases e : j = xi
    · rw [if_pos e, e, h1]
      omega
    · rw [if_neg e]
      exact h0 j j1 (by omega)
-- nm_o1
def q_m8 : Nat × SvM := (65, ([(0, none), (-1180591620717411303424, none), (-1180591620717411303424, none), (0, none), (-1180591620717411303424, none), (-1180591620717411303424, none), (-1180591620717411303424, none), (-1180591620717411303424, none)], [(19, [], [(0, [(0, 1)]), (0, [(3, 1)]), (0, [(4, 1)]), (0, [(5, 1)]), (0, [(6, 1)]), (0, [(7, 1)])]), (0, [], [(0, [(1, 1), (5, -1)])])], [(19, [], [(0, [(0, 1)]), (0, [(3, 1)]), (0, [(4, 1)]), (0, [(5, 1)]), (0, [(6, 1)]), (0, [(7, 1)])])]))
theorem q_m8_ok : ∀ (g : Int → Int → Int) (ln : Int → Int) (kf : Int → Nat) (ρ : List Int) (a i x : Int), sv_BOk ρ q_m8.2.1 → (∀ f ∈ q_m8.2.2.1, sv_FQk q_Ks q_Q g ln kf ρ f) → sv_nth ρ 0 = some a → sv_nth ρ 1 = some i → sv_nth ρ 2 = some x → 0 ≤ a → 0 ≤ i → i < ln a → kf a = q_m8.1 → ∀ f ∈ q_m8.2.2.2, sv_FQk q_Ks q_Q (sv_put g a i x) ln kf ρ f := by
  intro g ln kf ρ a i x hb hf n0 n1 n2 p0 p1 p2 p3
  obtain ⟨hl, hb⟩ := hb
  obtain ⟨xa, r0, rfl, l0⟩ := sv_lens hl
  obtain ⟨xi, r1, rfl, l1⟩ := sv_lens l0
  obtain ⟨xx, r2, rfl, l2⟩ := sv_lens l1
  obtain ⟨xb, r3, rfl, l3⟩ := sv_lens l2
  obtain ⟨xlo, r4, rfl, l4⟩ := sv_lens l3
  obtain ⟨xhi, r5, rfl, l5⟩ := sv_lens l4
  obtain ⟨xl, r6, rfl, l6⟩ := sv_lens l5
  obtain ⟨xu, r7, rfl, l7⟩ := sv_lens l6
  obtain rfl := sv_len0 l7
  clear l0 l1 l2 l3 l4 l5 l6 l7 hl
  have ba : 0 ≤ xa := (hb 0 _ _ rfl rfl).1
  have bb : 0 ≤ xb := (hb 3 _ _ rfl rfl).1
  clear hb
  obtain rfl : xa = a := by simpa [sv_nth] using n0
  obtain rfl : xi = i := by simpa [sv_nth] using n1
  obtain rfl : xx = x := by simpa [sv_nth] using n2
  clear n0 n1 n2
  have p3 : kf xa = 65 := p3
  have h0 := hf _ (List.mem_of_getElem? (i := 0) rfl)
  simp [sv_FQk, sv_FQ, sv_evs, sv_ev, sv_evT, sv_nth, sv_adq, sv_gs, q_Ks, q_Q] at h0
  have h1 := hf _ (List.mem_of_getElem? (i := 1) rfl)
  simp [sv_FQk, sv_FQ, sv_evs, sv_ev, sv_evT, sv_nth, sv_adq, sv_gs, q_Ks, q_Q] at h1
  clear hf
  obtain ⟨⟨⟨-, ka⟩, ⟨-, kb⟩⟩, h0⟩ := h0
  rw [sv_Qlin2_iff] at h0
  have eb : sv_put g xa xi xx xb = g xb := sv_put_ne (sv_kf_ne kb p3 (by decide))
  intro f hf
  have hf : f ∈ [(19, [], [(0, [(0, 1)]), (0, [(3, 1)]), (0, [(4, 1)]), (0, [(5, 1)]), (0, [(6, 1)]), (0, [(7, 1)])])] := hf
  simp only [List.mem_cons, List.not_mem_nil, or_false] at hf
  subst hf
  · simp [sv_FQk, sv_FQ, sv_evs, sv_ev, sv_evT, sv_nth, sv_adq, sv_gs, q_Ks, q_Q]
    refine ⟨⟨⟨ba, ka⟩, ⟨bb, kb⟩⟩, ?_⟩
    rw [sv_Qlin2_iff]
    simp only [sv_put_eq, eb]
    intro j j1 j2
    rw [if_neg (by omega)]
    exact h0 j j1 j2
-- nm_o2
def q_m9 : Nat × SvM := (66, ([(0, none), (-1180591620717411303424, none), (-1180591620717411303424, none), (0, none), (-1180591620717411303424, none), (-1180591620717411303424, none), (-1180591620717411303424, none), (-1180591620717411303424, none)], [(19, [], [(0, [(3, 1)]), (0, [(0, 1)]), (0, [(4, 1)]), (0, [(5, 1)]), (0, [(6, 1)]), (0, [(7, 1)])]), (0, [], [(0, [(1, 1), (5, -1)])])], [(19, [], [(0, [(3, 1)]), (0, [(0, 1)]), (0, [(4, 1)]), (0, [(5, 1)]), (0, [(6, 1)]), (0, [(7, 1)])])]))
theorem q_m9_ok : ∀ (g : Int → Int → Int) (ln : Int → Int) (kf : Int → Nat) (ρ : List Int) (a i x : Int), sv_BOk ρ q_m9.2.1 → (∀ f ∈ q_m9.2.2.1, sv_FQk q_Ks q_Q g ln kf ρ f) → sv_nth ρ 0 = some a → sv_nth ρ 1 = some i → sv_nth ρ 2 = some x → 0 ≤ a → 0 ≤ i → i < ln a → kf a = q_m9.1 → ∀ f ∈ q_m9.2.2.2, sv_FQk q_Ks q_Q (sv_put g a i x) ln kf ρ f := by
  intro g ln kf ρ a i x hb hf n0 n1 n2 p0 p1 p2 p3
  obtain ⟨hl, hb⟩ := hb
  obtain ⟨xb, r0, rfl, l0⟩ := sv_lens hl
  obtain ⟨xi, r1, rfl, l1⟩ := sv_lens l0
  obtain ⟨xy, r2, rfl, l2⟩ := sv_lens l1
  obtain ⟨xa, r3, rfl, l3⟩ := sv_lens l2
  obtain ⟨xlo, r4, rfl, l4⟩ := sv_lens l3
  obtain ⟨xhi, r5, rfl, l5⟩ := sv_lens l4
  obtain ⟨xl, r6, rfl, l6⟩ := sv_lens l5
  obtain ⟨xu, r7, rfl, l7⟩ := sv_lens l6
  obtain rfl := sv_len0 l7
  clear l0 l1 l2 l3 l4 l5 l6 l7 hl
  have bb : 0 ≤ xb := (hb 0 _ _ rfl rfl).1
  have ba : 0 ≤ xa := (hb 3 _ _ rfl rfl).1
  clear hb
  obtain rfl : xb = a := by simpa [sv_nth] using n0
  obtain rfl : xi = i := by simpa [sv_nth] using n1
  obtain rfl : xy = x := by simpa [sv_nth] using n2
  clear n0 n1 n2
  have p3 : kf xb = 66 := p3
  have h0 := hf _ (List.mem_of_getElem? (i := 0) rfl)
  simp [sv_FQk, sv_FQ, sv_evs, sv_ev, sv_evT, sv_nth, sv_adq, sv_gs, q_Ks, q_Q] at h0
  have h1 := hf _ (List.mem_of_getElem? (i := 1) rfl)
  simp [sv_FQk, sv_FQ, sv_evs, sv_ev, sv_evT, sv_nth, sv_adq, sv_gs, q_Ks, q_Q] at h1
  clear hf
  obtain ⟨⟨⟨-, ka⟩, ⟨-, kb⟩⟩, h0⟩ := h0
  rw [sv_Qlin2_iff] at h0
  have ea : sv_put g xb xi xy xa = g xa := sv_put_ne (sv_kf_ne ka p3 (by decide))
  intro f hf
  have hf : f ∈ [(19, [], [(0, [(3, 1)]), (0, [(0, 1)]), (0, [(4, 1)]), (0, [(5, 1)]), (0, [(6, 1)]), (0, [(7, 1)])])] := hf
  simp only [List.mem_cons, List.not_mem_nil, or_false] at hf
  subst hf
  · simp [sv_FQk, sv_FQ, sv_evs, sv_ev, sv_evT, sv_nth, sv_adq, sv_gs, q_Ks, q_Q]
    refine ⟨⟨⟨ba, ka⟩, ⟨bb, kb⟩⟩, ?_⟩
    rw [sv_Qlin2_iff]
    simp only [sv_put_eq, ea]
    intro j j1 j2
    rw [if_neg (by omega)]
    exact h0 j j1 j2
-- wv_s
def q_m10 : Nat × SvM := (58, ([(0, none), (-1180591620717411303424, none), (-1180591620717411303424, none), (-1180591620717411303424, none), (-1180591620717411303424, none), (-1180591620717411303424, none), (-1180591620717411303424, none)], [(20, [], [(0, [(0, 1)]), (0, [(3, 1)]), (0, [(4, 1)]), (0, [(5, 1)]), (0, [(6, 1)])]), (0, [], [(0, [(1, -1), (4, 1)])]), (0, [], [(0, [(1, 1), (4, -1)])]), (0, [], [(0, [(1, 1), (2, 1), (5, -1)])]), (0, [], [(0, [(1, -1), (2, -1), (6, 1)])])], [(20, [], [(0, [(0, 1)]), (0, [(3, 1)]), (1, [(4, 1)]), (0, [(5, 1)]), (0, [(6, 1)])])]))
theorem q_m10_ok : ∀ (g : Int → Int → Int) (ln : Int → Int) (kf : Int → Nat) (ρ : List Int) (a i x : Int), sv_BOk ρ q_m10.2.1 → (∀ f ∈ q_m10.2.2.1, sv_FQk q_Ks q_Q g ln kf ρ f) → sv_nth ρ 0 = some a → sv_nth ρ 1 = some i → sv_nth ρ 2 = some x → 0 ≤ a → 0 ≤ i → i < ln a → kf a = q_m10.1 → ∀ f ∈ q_m10.2.2.2, sv_FQk q_Ks q_Q (sv_put g a i x) ln kf ρ f := by
  intro g ln kf ρ a i x hb hf n0 n1 n2 p0 p1 p2 p3
  obtain ⟨hl, hb⟩ := hb
  obtain ⟨xa, r0, rfl, l0⟩ := sv_lens hl
  obtain ⟨xi, r1, rfl, l1⟩ := sv_lens l0
  obtain ⟨xx, r2, rfl, l2⟩ := sv_lens l1
  obtain ⟨xlo, r3, rfl, l3⟩ := sv_lens l2
  obtain ⟨xhi, r4, rfl, l4⟩ := sv_lens l3
  obtain ⟨xl, r5, rfl, l5⟩ := sv_lens l4
  obtain ⟨xu, r6, rfl, l6⟩ := sv_lens l5
  obtain rfl := sv_len0 l6
  clear l0 l1 l2 l3 l4 l5 l6 hl
  have ba : 0 ≤ xa := (hb 0 _ _ rfl rfl).1
  clear hb
  obtain rfl : xa = a := by simpa [sv_nth] using n0
  obtain rfl : xi = i := by simpa [sv_nth] using n1
  obtain rfl : xx = x := by simpa [sv_nth] using n2
  clear n0 n1 n2
  have p3 : kf xa = 58 := p3
  have h0 := hf _ (List.mem_of_getElem? (i := 0) rfl)
  simp [sv_FQk, sv_FQ, sv_evs, sv_ev, sv_evT, sv_nth, sv_adq, sv_gs, q_Ks, q_Q] at h0
  have h1 := hf _ (List.mem_of_getElem? (i := 1) rfl)
  simp [sv_FQk, sv_FQ, sv_evs, sv_ev, sv_evT, sv_nth, sv_adq, sv_gs, q_Ks, q_Q] at h1
  have h2 := hf _ (List.mem_of_getElem? (i := 2) rfl)
  simp [sv_FQk, sv_FQ, sv_evs, sv_ev, sv_evT, sv_nth, sv_adq, sv_gs, q_Ks, q_Q] at h2
  have h3 := hf _ (List.mem_of_getElem? (i := 3) rfl)
  simp [sv_FQk, sv_FQ, sv_evs, sv_ev, sv_evT, sv_nth, sv_adq, sv_gs, q_Ks, q_Q] at h3
  have h4 := hf _ (List.mem_of_getElem? (i := 4) rfl)
  simp [sv_FQk, sv_FQ, sv_evs, sv_ev, sv_evT, sv_nth, sv_adq, sv_gs, q_Ks, q_Q] at h4
  clear hf
  obtain ⟨⟨-, ka⟩, h0⟩ := h0
  rw [sv_Qlin_iff] at h0
  intro f hf
  have hf : f ∈ [(20, [], [(0, [(0, 1)]), (0, [(3, 1)]), (1, [(4, 1)]), (0, [(5, 1)]), (0, [(6, 1)])])] := hf
  simp only [List.mem_cons, List.not_mem_nil, or_false] at hf
  subst hf
  · simp [sv_FQk, sv_FQ, sv_evs, sv_ev, sv_evT, sv_nth, sv_adq, sv_gs, q_Ks, q_Q]
    refine ⟨⟨ba, ka⟩, ?_⟩
    rw [sv_Qlin_iff]
    simp only [sv_put_eq]
    intro j j1 j2
    by_cases e : j = xi
    · rw [if_pos e]
      omega
    · rw [if_neg e]
      exact h0 j j1 (by omega)
-- wv_k
def q_m11 : Nat × SvM := (58, ([(0, none), (-1180591620717411303424, none), (-1180591620717411303424, none), (-1180591620717411303424, none), (-1180591620717411303424, none), (-1180591620717411303424, none), (-1180591620717411303424, none)], [(20, [], [(0, [(0, 1)]), (0, [(3, 1)]), (0, [(4, 1)]), (0, [(5, 1)]), (0, [(6, 1)])]), (0, [], [(0, [(1, 1), (2, 1), (5, -1)])]), (0, [], [(0, [(1, -1), (2, -1), (6, 1)])])], [(20, [], [(0, [(0, 1)]), (0, [(3, 1)]), (0, [(4, 1)]), (0, [(5, 1)]), (0, [(6, 1)])])]))
theorem q_m11_ok : ∀ (g : Int → Int → Int) (ln : Int → Int) (kf : Int → Nat) (ρ : List Int) (a i x : Int), sv_BOk ρ q_m11.2.1 → (∀ f ∈ q_m11.2.2.1, sv_FQk q_Ks q_Q g ln kf ρ f) → sv_nth ρ 0 = some a → sv_nth ρ 1 = some i → sv_nth ρ 2 = some x → 0 ≤ a → 0 ≤ i → i < ln a → kf a = q_m11.1 → ∀ f ∈ q_m11.2.2.2, sv_FQk q_Ks q_Q (sv_put g a i x) ln kf ρ f := by
  intro g ln kf ρ a i x hb hf n0 n1 n2 p0 p1 p2 p3
  obtain ⟨hl, hb⟩ := hb
  obtain ⟨xa, r0, rfl, l0⟩ := sv_lens hl
  obtain ⟨xi, r1, rfl, l1⟩ := sv_lens l0
  obtain ⟨xx, r2, rfl, l2⟩ := sv_lens l1
  obtain ⟨xlo, r3, rfl, l3⟩ := sv_lens l2
  obtain ⟨xhi, r4, rfl, l4⟩ := sv_lens l3
  obtain ⟨xl, r5, rfl, l5⟩ := sv_lens l4
  obtain ⟨xu, r6, rfl, l6⟩ := sv_lens l5
  obtain rfl := sv_len0 l6
  clear l0 l1 l2 l3 l4 l5 l6 hl
  have ba : 0 ≤ xa := (hb 0 _ _ rfl rfl).1
  clear hb
  obtain rfl : xa = a := by simpa [sv_nth] using n0
  obtain rfl : xi = i := by simpa [sv_nth] using n1
  obtain rfl : xx = x := by simpa [sv_nth] using n2
  clear n0 n1 n2
  have p3 : kf xa = 58 := p3
  have h0 := hf _ (List.mem_of_getElem? (i := 0) rfl)
  simp [sv_FQk, sv_FQ, sv_evs, sv_ev, sv_evT, sv_nth, sv_adq, sv_gs, q_Ks, q_Q] at h0
  have h1 := hf _ (List.mem_of_getElem? (i := 1) rfl)
  simp [sv_FQk, sv_FQ, sv_evs, sv_ev, sv_evT, sv_nth, sv_adq, sv_gs, q_Ks, q_Q] at h1
  have h2 := hf _ (List.mem_of_getElem? (i := 2) rfl)
  simp [sv_FQk, sv_FQ, sv_evs, sv_ev, sv_evT, sv_nth, sv_adq, sv_gs, q_Ks, q_Q] at h2
  clear hf
  obtain ⟨⟨-, ka⟩, h0⟩ := h0
  rw [sv_Qlin_iff] at h0
  intro f hf
  have hf : f ∈ [(20, [], [(0, [(0, 1)]), (0, [(3, 1)]), (0, [(4, 1)]), (0, [(5, 1)]), (0, [(6, 1)])])] := hf
  simp only [List.mem_cons, List.not_mem_nil, or_false] at hf
  subst hf
  · simp [sv_FQk, sv_FQ, sv_evs, sv_ev, sv_evT, sv_nth, sv_adq, sv_gs, q_Ks, q_Q]
    refine ⟨⟨ba, ka⟩, ?_⟩
    rw [sv_Qlin_iff]
    simp only [sv_put_eq]
    intro j j1 j2
    by_cases e : j = xi
    · rw [if_pos e, e]
      omega
    · rw [if_neg e]
      exact h0 j j1 j2
