/-! the constructors, run by computation *-/
def zc_Con_init : List zk_E := [(0, .aload_n 0, 0, 0, 0, 0, 0),
  (1, .invokespecial 3, 0, 0, 0, 0, 0),
  (4, .aload_n 0, 0, 0, 0, 0, 0),
  (5, .iconst 0, 0, 0, 0, 0, 0),
  (6, .putfield 9, 0, 0, 0, 0, 0),
  (9, .aload_n 0, 0, 0, 0, 0, 0),
  (10, .iconst 0, 0, 0, 0, 0, 0),
  (11, .putfield 15, 0, 0, 1, 1, 0),
  (14, .aload_n 0, 0, 0, 0, 0, 0),
  (15, .iconst (-1), 0, 0, 0, 0, 0),
  (16, .putfield 18, 0, 0, 2, 2, 0),
  (19, .aload_n 0, 0, 0, 0, 0, 0),
  (20, .new 21, 0, 9, 0, 0, 0),
  (23, .dup, 0, 0, 0, 0, 0),
  (24, .invokespecial 23, 1, 87, 0, 0, 0),
  (27, .putfield 24, 0, 0, 3, 3, 3),
  (30, .aload_n 0, 0, 0, 0, 0, 0),
  (31, .new 28, 0, 8, 0, 0, 0),
  (34, .dup, 0, 0, 0, 0, 0),
  (35, .invokespecial 30, 1, 83, 0, 0, 0),
  (38, .putfield 31, 0, 0, 4, 4, 3),
  (41, .aload_n 0, 0, 0, 0, 0, 0),
  (42, .new 35, 0, 6, 0, 0, 0),
  (45, .dup, 0, 0, 0, 0, 0),
  (46, .invokespecial 37, 1, 59, 0, 0, 0),
  (49, .putfield 38, 0, 0, 5, 5, 3),
  (52, .return_, 0, 0, 0, 0, 0)]
def zc_Law_init : List zk_E := [(0, .aload_n 0, 0, 0, 0, 0, 0),
  (1, .invokespecial 3, 0, 0, 0, 0, 0),
  (4, .aload_n 0, 0, 0, 0, 0, 0),
  (5, .iconst 4, 0, 0, 0, 0, 0),
  (6, .anewarray 9, 0, 0, 0, 0, 0),
  (9, .putfield 11, 0, 1, 0, 0, 3),
  (12, .aload_n 0, 0, 0, 0, 0, 0),
  (13, .iconst 5, 0, 0, 0, 0, 0),
  (14, .newarray .int, 0, 0, 0, 0, 0),
  (16, .putfield 17, 0, 1, 1, 1, 3),
  (19, .aload_n 0, 0, 0, 0, 0, 0),
  (20, .bipush 6, 0, 0, 0, 0, 0),
  (22, .newarray .int, 0, 0, 0, 0, 0),
  (24, .putfield 21, 0, 1, 2, 2, 3),
  (27, .iconst 0, 0, 0, 0, 0, 0),
  (28, .istore_n 1, 0, 0, 0, 0, 0),
  (29, .iload_n 1, 0, 0, 0, 0, 0),
  (30, .iconst 4, 0, 0, 0, 0, 0),
  (31, .if_icmp .ge 22, 0, 10, 0, 0, 0),
  (34, .aload_n 0, 0, 0, 0, 0, 0),
  (35, .getfield 11, 0, 1, 0, 0, 3),
  (38, .iload_n 1, 0, 0, 0, 0, 0),
  (39, .new 9, 0, 7, 0, 0, 0),
  (42, .dup, 0, 0, 0, 0, 0),
  (43, .invokespecial 24, 1, 69, 0, 0, 0),
  (46, .aastore, 0, 0, 0, 0, 0),
  (47, .iinc 1 1, 0, 0, 0, 0, 0),
  (50, .goto (-21), 0, 0, 0, 16, 0),
  (53, .return_, 0, 0, 0, 0, 0)]
def zc_Lev_init : List zk_E := [(0, .aload_n 0, 0, 0, 0, 0, 0),
  (1, .invokespecial 3, 0, 0, 0, 0, 0),
  (4, .aload_n 0, 0, 0, 0, 0, 0),
  (5, .iconst 0, 0, 0, 0, 0, 0),
  (6, .putfield 9, 0, 2, 0, 0, 0),
  (9, .aload_n 0, 0, 0, 0, 0, 0),
  (10, .iconst 0, 0, 0, 0, 0, 0),
  (11, .putfield 15, 0, 2, 1, 1, 0),
  (14, .aload_n 0, 0, 0, 0, 0, 0),
  (15, .bipush 12, 0, 0, 0, 0, 0),
  (17, .newarray .int, 0, 0, 0, 0, 0),
  (19, .putfield 18, 0, 2, 2, 2, 3),
  (22, .aload_n 0, 0, 0, 0, 0, 0),
  (23, .bipush 12, 0, 0, 0, 0, 0),
  (25, .newarray .int, 0, 0, 0, 0, 0),
  (27, .putfield 22, 0, 2, 3, 3, 3),
  (30, .aload_n 0, 0, 0, 0, 0, 0),
  (31, .bipush 12, 0, 0, 0, 0, 0),
  (33, .newarray .int, 0, 0, 0, 0, 0),
  (35, .putfield 25, 0, 2, 4, 4, 3),
  (38, .aload_n 0, 0, 0, 0, 0, 0),
  (39, .bipush 6, 0, 0, 0, 0, 0),
  (41, .newarray .int, 0, 0, 0, 0, 0),
  (43, .putfield 28, 0, 2, 5, 5, 3),
  (46, .aload_n 0, 0, 0, 0, 0, 0),
  (47, .bipush 6, 0, 0, 0, 0, 0),
  (49, .newarray .int, 0, 0, 0, 0, 0),
  (51, .putfield 31, 0, 2, 6, 6, 3),
  (54, .return_, 0, 0, 0, 0, 0)]
def zc_Mar_init : List zk_E := [(0, .aload_n 0, 0, 0, 0, 0, 0),
  (1, .invokespecial 3, 0, 0, 0, 0, 0),
  (4, .aload_n 0, 0, 0, 0, 0, 0),
  (5, .iconst 0, 0, 0, 0, 0, 0),
  (6, .putfield 9, 0, 3, 0, 0, 0),
  (9, .aload_n 0, 0, 0, 0, 0, 0),
  (10, .iconst 0, 0, 0, 0, 0, 0),
  (11, .putfield 15, 0, 3, 1, 1, 0),
  (14, .aload_n 0, 0, 0, 0, 0, 0),
  (15, .bipush 6, 0, 0, 0, 0, 0),
  (17, .newarray .int, 0, 0, 0, 0, 0),
  (19, .putfield 18, 0, 3, 2, 2, 3),
  (22, .aload_n 0, 0, 0, 0, 0, 0),
  (23, .bipush 6, 0, 0, 0, 0, 0),
  (25, .newarray .int, 0, 0, 0, 0, 0),
  (27, .putfield 22, 0, 3, 3, 3, 3),
  (30, .aload_n 0, 0, 0, 0, 0, 0),
  (31, .bipush 6, 0, 0, 0, 0, 0),
  (33, .newarray .int, 0, 0, 0, 0, 0),
  (35, .putfield 25, 0, 3, 4, 4, 3),
  (38, .return_, 0, 0, 0, 0, 0)]
def zc_Pen_init : List zk_E := [(0, .aload_n 0, 0, 0, 0, 0, 0),
  (1, .invokespecial 3, 0, 0, 0, 0, 0),
  (4, .aload_n 0, 0, 0, 0, 0, 0),
  (5, .iconst 0, 0, 0, 0, 0, 0),
  (6, .putfield 9, 0, 4, 0, 0, 0),
  (9, .aload_n 0, 0, 0, 0, 0, 0),
  (10, .iconst 0, 0, 0, 0, 0, 0),
  (11, .putfield 15, 0, 4, 1, 1, 0),
  (14, .aload_n 0, 0, 0, 0, 0, 0),
  (15, .iconst 0, 0, 0, 0, 0, 0),
  (16, .putfield 18, 0, 4, 2, 2, 0),
  (19, .aload_n 0, 0, 0, 0, 0, 0),
  (20, .bipush 8, 0, 0, 0, 0, 0),
  (22, .newarray .int, 0, 0, 0, 0, 0),
  (24, .putfield 21, 0, 4, 3, 3, 3),
  (27, .aload_n 0, 0, 0, 0, 0, 0),
  (28, .bipush 6, 0, 0, 0, 0, 0),
  (30, .newarray .int, 0, 0, 0, 0, 0),
  (32, .putfield 25, 0, 4, 4, 4, 3),
  (35, .aload_n 0, 0, 0, 0, 0, 0),
  (36, .sipush 256, 0, 0, 0, 0, 0),
  (39, .newarray .int, 0, 0, 0, 0, 0),
  (41, .putfield 28, 0, 4, 5, 5, 3),
  (44, .return_, 0, 0, 0, 0, 0)]
def zc_Rea_init : List zk_E := [(0, .aload_n 0, 0, 0, 0, 0, 0),
  (1, .invokespecial 3, 0, 0, 0, 0, 0),
  (4, .aload_n 0, 0, 0, 0, 0, 0),
  (5, .iconst (-1), 0, 0, 0, 0, 0),
  (6, .putfield 9, 0, 5, 0, 0, 0),
  (9, .aload_n 0, 0, 0, 0, 0, 0),
  (10, .iconst (-1), 0, 0, 0, 0, 0),
  (11, .putfield 15, 0, 5, 1, 1, 0),
  (14, .aload_n 0, 0, 0, 0, 0, 0),
  (15, .iconst 0, 0, 0, 0, 0, 0),
  (16, .putfield 18, 0, 5, 2, 2, 2),
  (19, .aload_n 0, 0, 0, 0, 0, 0),
  (20, .iconst 0, 0, 0, 0, 0, 0),
  (21, .putfield 22, 0, 5, 3, 3, 2),
  (24, .aload_n 0, 0, 0, 0, 0, 0),
  (25, .bipush 32, 0, 0, 0, 0, 0),
  (27, .newarray .int, 0, 0, 0, 0, 0),
  (29, .putfield 25, 0, 5, 4, 4, 3),
  (32, .aload_n 0, 0, 0, 0, 0, 0),
  (33, .iconst 0, 0, 0, 0, 0, 0),
  (34, .putfield 29, 0, 5, 5, 5, 0),
  (37, .aload_n 0, 0, 0, 0, 0, 0),
  (38, .iconst 0, 0, 0, 0, 0, 0),
  (39, .putfield 32, 0, 5, 6, 6, 0),
  (42, .aload_n 0, 0, 0, 0, 0, 0),
  (43, .iconst 0, 0, 0, 0, 0, 0),
  (44, .putfield 35, 0, 5, 7, 7, 0),
  (47, .aload_n 0, 0, 0, 0, 0, 0),
  (48, .iconst 0, 0, 0, 0, 0, 0),
  (49, .putfield 38, 0, 5, 8, 8, 2),
  (52, .return_, 0, 0, 0, 0, 0)]
def zc_Sca_init : List zk_E := [(0, .aload_n 0, 0, 0, 0, 0, 0),
  (1, .invokespecial 3, 0, 0, 0, 0, 0),
  (4, .aload_n 0, 0, 0, 0, 0, 0),
  (5, .bipush 12, 0, 0, 0, 0, 0),
  (7, .newarray .int, 0, 0, 0, 0, 0),
  (9, .putfield 11, 0, 6, 0, 0, 3),
  (12, .aload_n 0, 0, 0, 0, 0, 0),
  (13, .bipush 12, 0, 0, 0, 0, 0),
  (15, .newarray .int, 0, 0, 0, 0, 0),
  (17, .putfield 15, 0, 6, 1, 1, 3),
  (20, .aload_n 0, 0, 0, 0, 0, 0),
  (21, .bipush 12, 0, 0, 0, 0, 0),
  (23, .newarray .int, 0, 0, 0, 0, 0),
  (25, .putfield 18, 0, 6, 2, 2, 3),
  (28, .aload_n 0, 0, 0, 0, 0, 0),
  (29, .iconst 0, 0, 0, 0, 0, 0),
  (30, .putfield 21, 0, 6, 3, 3, 0),
  (33, .aload_n 0, 0, 0, 0, 0, 0),
  (34, .bipush 24, 0, 0, 0, 0, 0),
  (36, .newarray .int, 0, 0, 0, 0, 0),
  (38, .putfield 25, 0, 6, 4, 4, 3),
  (41, .return_, 0, 0, 0, 0, 0)]
def zc_Scr_init : List zk_E := [(0, .aload_n 0, 0, 0, 0, 0, 0),
  (1, .invokespecial 3, 0, 0, 0, 0, 0),
  (4, .aload_n 0, 0, 0, 0, 0, 0),
  (5, .iconst 0, 0, 0, 0, 0, 0),
  (6, .putfield 9, 0, 7, 0, 0, 0),
  (9, .aload_n 0, 0, 0, 0, 0, 0),
  (10, .bipush 96, 0, 0, 0, 0, 0),
  (12, .newarray .int, 0, 0, 0, 0, 0),
  (14, .putfield 15, 0, 7, 1, 1, 3),
  (17, .aload_n 0, 0, 0, 0, 0, 0),
  (18, .sipush 300, 0, 0, 0, 0, 0),
  (21, .newarray .int, 0, 0, 0, 0, 0),
  (23, .putfield 19, 0, 7, 2, 2, 3),
  (26, .aload_n 0, 0, 0, 0, 0, 0),
  (27, .iconst 0, 0, 0, 0, 0, 0),
  (28, .putfield 22, 0, 7, 3, 3, 0),
  (31, .aload_n 0, 0, 0, 0, 0, 0),
  (32, .iconst 0, 0, 0, 0, 0, 0),
  (33, .putfield 25, 0, 7, 4, 4, 0),
  (36, .aload_n 0, 0, 0, 0, 0, 0),
  (37, .iconst 0, 0, 0, 0, 0, 0),
  (38, .putfield 28, 0, 7, 5, 5, 0),
  (41, .aload_n 0, 0, 0, 0, 0, 0),
  (42, .iconst 0, 0, 0, 0, 0, 0),
  (43, .putfield 31, 0, 7, 6, 6, 0),
  (46, .aload_n 0, 0, 0, 0, 0, 0),
  (47, .iconst 0, 0, 0, 0, 0, 0),
  (48, .putfield 34, 0, 7, 7, 7, 0),
  (51, .aload_n 0, 0, 0, 0, 0, 0),
  (52, .bipush 32, 0, 0, 0, 0, 0),
  (54, .newarray .int, 0, 0, 0, 0, 0),
  (56, .putfield 37, 0, 7, 8, 8, 3),
  (59, .return_, 0, 0, 0, 0, 0)]
def zc_Ste_init : List zk_E := [(0, .aload_n 0, 0, 0, 0, 0, 0),
  (1, .invokespecial 1, 0, 0, 0, 0, 0),
  (4, .aload_n 0, 0, 0, 0, 0, 0),
  (5, .sipush 960, 0, 0, 0, 0, 0),
  (8, .newarray .int, 0, 0, 0, 0, 0),
  (10, .putfield 11, 0, 8, 0, 0, 3),
  (13, .aload_n 0, 0, 0, 0, 0, 0),
  (14, .iconst 0, 0, 0, 0, 0, 0),
  (15, .putfield 15, 0, 8, 1, 1, 0),
  (18, .aload_n 0, 0, 0, 0, 0, 0),
  (19, .iconst 0, 0, 0, 0, 0, 0),
  (20, .putfield 19, 0, 8, 2, 2, 0),
  (23, .return_, 0, 0, 0, 0, 0)]
def zc_Sto_init : List zk_E := [(0, .aload_n 0, 0, 0, 0, 0, 0),
  (1, .invokespecial 3, 0, 0, 0, 0, 0),
  (4, .aload_n 0, 0, 0, 0, 0, 0),
  (5, .bipush 32, 0, 0, 0, 0, 0),
  (7, .newarray .int, 0, 0, 0, 0, 0),
  (9, .putfield 11, 0, 9, 0, 0, 3),
  (12, .return_, 0, 0, 0, 0, 0)]
def zc_Tap_init : List zk_E := [(0, .aload_n 0, 0, 0, 0, 0, 0),
  (1, .invokespecial 3, 0, 0, 0, 0, 0),
  (4, .aload_n 0, 0, 0, 0, 0, 0),
  (5, .sipush 300, 0, 0, 0, 0, 0),
  (8, .newarray .char, 0, 0, 0, 0, 0),
  (10, .putfield 9, 0, 10, 0, 0, 3),
  (13, .aload_n 0, 0, 0, 0, 0, 0),
  (14, .iconst 0, 0, 0, 0, 0, 0),
  (15, .putfield 15, 0, 10, 1, 1, 0),
  (18, .aload_n 0, 0, 0, 0, 0, 0),
  (19, .iconst 0, 0, 0, 0, 0, 0),
  (20, .putfield 19, 0, 10, 2, 2, 0),
  (23, .aload_n 0, 0, 0, 0, 0, 0),
  (24, .iconst 0, 0, 0, 0, 0, 0),
  (25, .putfield 22, 0, 10, 3, 3, 0),
  (28, .aload_n 0, 0, 0, 0, 0, 0),
  (29, .iconst 0, 0, 0, 0, 0, 0),
  (30, .putfield 25, 0, 10, 4, 4, 0),
  (33, .aload_n 0, 0, 0, 0, 0, 0),
  (34, .iconst 0, 0, 0, 0, 0, 0),
  (35, .putfield 28, 0, 10, 5, 5, 0),
  (38, .return_, 0, 0, 0, 0, 0)]
def zc_Vos_init : List zk_E := [(0, .aload_n 0, 0, 0, 0, 0, 0),
  (1, .invokespecial 1, 0, 0, 0, 0, 0),
  (4, .aload_n 0, 0, 0, 0, 0, 0),
  (5, .new 7, 0, 0, 0, 0, 0),
  (8, .dup, 0, 0, 0, 0, 0),
  (9, .invokespecial 9, 1, 0, 0, 0, 0),
  (12, .putfield 10, 0, 11, 0, 0, 3),
  (15, .aload_n 0, 0, 0, 0, 0, 0),
  (16, .new 7, 0, 0, 0, 0, 0),
  (19, .dup, 0, 0, 0, 0, 0),
  (20, .invokespecial 9, 1, 0, 0, 0, 0),
  (23, .putfield 16, 0, 11, 1, 1, 3),
  (26, .aload_n 0, 0, 0, 0, 0, 0),
  (27, .new 19, 0, 1, 0, 0, 0),
  (30, .dup, 0, 0, 0, 0, 0),
  (31, .invokespecial 21, 2, 12, 0, 0, 0),
  (34, .putfield 22, 0, 11, 2, 2, 3),
  (37, .aload_n 0, 0, 0, 0, 0, 0),
  (38, .new 26, 0, 10, 0, 0, 0),
  (41, .dup, 0, 0, 0, 0, 0),
  (42, .invokespecial 28, 1, 103, 0, 0, 0),
  (45, .putfield 29, 0, 11, 3, 3, 3),
  (48, .aload_n 0, 0, 0, 0, 0, 0),
  (49, .new 33, 0, 5, 0, 0, 0),
  (52, .dup, 0, 0, 0, 0, 0),
  (53, .invokespecial 35, 1, 41, 0, 0, 0),
  (56, .putfield 36, 0, 11, 4, 4, 3),
  (59, .aload_n 0, 0, 0, 0, 0, 0),
  (60, .new 40, 0, 2, 0, 0, 0),
  (63, .dup, 0, 0, 0, 0, 0),
  (64, .invokespecial 42, 1, 19, 0, 0, 0),
  (67, .putfield 43, 0, 11, 5, 5, 3),
  (70, .aload_n 0, 0, 0, 0, 0, 0),
  (71, .new 47, 0, 3, 0, 0, 0),
  (74, .dup, 0, 0, 0, 0, 0),
  (75, .invokespecial 49, 1, 25, 0, 0, 0),
  (78, .putfield 50, 0, 11, 6, 6, 3),
  (81, .aload_n 0, 0, 0, 0, 0, 0),
  (82, .new 54, 0, 4, 0, 0, 0),
  (85, .dup, 0, 0, 0, 0, 0),
  (86, .invokespecial 56, 1, 32, 0, 0, 0),
  (89, .putfield 57, 0, 11, 7, 7, 3),
  (92, .return_, 0, 0, 0, 0, 0)]
def zc_Mod_init : List zk_E := [(0, .aload_n 0, 0, 0, 0, 0, 0),
  (1, .invokespecial 1, 0, 0, 0, 0, 0),
  (4, .aload_n 0, 0, 0, 0, 0, 0),
  (5, .sipush 2026, 0, 0, 0, 0, 0),
  (8, .newarray .int, 0, 0, 0, 0, 0),
  (10, .putfield 7, 0, 12, 0, 0, 3),
  (13, .aload_n 0, 0, 0, 0, 0, 0),
  (14, .sipush 2026, 0, 0, 0, 0, 0),
  (17, .newarray .int, 0, 0, 0, 0, 0),
  (19, .putfield 13, 0, 12, 1, 1, 3),
  (22, .aload_n 0, 0, 0, 0, 0, 0),
  (23, .sipush 2720, 0, 0, 0, 0, 0),
  (26, .newarray .int, 0, 0, 0, 0, 0),
  (28, .putfield 16, 0, 12, 2, 2, 3),
  (31, .aload_n 0, 0, 0, 0, 0, 0),
  (32, .sipush 300, 0, 0, 0, 0, 0),
  (35, .newarray .int, 0, 0, 0, 0, 0),
  (37, .putfield 19, 0, 12, 3, 3, 3),
  (40, .aload_n 0, 0, 0, 0, 0, 0),
  (41, .iconst (-1), 0, 0, 0, 0, 0),
  (42, .putfield 22, 0, 12, 5, 5, 0),
  (45, .aload_n 0, 0, 0, 0, 0, 0),
  (46, .iconst (-1), 0, 0, 0, 0, 0),
  (47, .putfield 26, 0, 12, 6, 6, 0),
  (50, .aload_n 0, 0, 0, 0, 0, 0),
  (51, .sipush 160, 0, 0, 0, 0, 0),
  (54, .newarray .int, 0, 0, 0, 0, 0),
  (56, .putfield 29, 0, 12, 16, 16, 3),
  (59, .aload_n 0, 0, 0, 0, 0, 0),
  (60, .iconst 5, 0, 0, 0, 0, 0),
  (61, .newarray .int, 0, 0, 0, 0, 0),
  (63, .putfield 32, 0, 12, 22, 22, 3),
  (66, .aload_n 0, 0, 0, 0, 0, 0),
  (67, .sipush 330, 0, 0, 0, 0, 0),
  (70, .newarray .long, 0, 0, 0, 0, 0),
  (72, .putfield 35, 0, 12, 23, 23, 3),
  (75, .aload_n 0, 0, 0, 0, 0, 0),
  (76, .sipush 330, 0, 0, 0, 0, 0),
  (79, .newarray .boolean, 0, 0, 0, 0, 0),
  (81, .putfield 39, 0, 12, 24, 24, 3),
  (84, .aload_n 0, 0, 0, 0, 0, 0),
  (85, .bipush 6, 0, 0, 0, 0, 0),
  (87, .newarray .int, 0, 0, 0, 0, 0),
  (89, .putfield 43, 0, 12, 25, 25, 3),
  (92, .aload_n 0, 0, 0, 0, 0, 0),
  (93, .bipush 6, 0, 0, 0, 0, 0),
  (95, .newarray .int, 0, 0, 0, 0, 0),
  (97, .putfield 46, 0, 12, 26, 26, 3),
  (100, .aload_n 0, 0, 0, 0, 0, 0),
  (101, .bipush 12, 0, 0, 0, 0, 0),
  (103, .newarray .int, 0, 0, 0, 0, 0),
  (105, .putfield 49, 0, 12, 27, 27, 3),
  (108, .aload_n 0, 0, 0, 0, 0, 0),
  (109, .bipush 12, 0, 0, 0, 0, 0),
  (111, .newarray .int, 0, 0, 0, 0, 0),
  (113, .putfield 52, 0, 12, 28, 28, 3),
  (116, .aload_n 0, 0, 0, 0, 0, 0),
  (117, .bipush 12, 0, 0, 0, 0, 0),
  (119, .newarray .int, 0, 0, 0, 0, 0),
  (121, .putfield 55, 0, 12, 29, 29, 3),
  (124, .aload_n 0, 0, 0, 0, 0, 0),
  (125, .bipush 6, 0, 0, 0, 0, 0),
  (127, .newarray .int, 0, 0, 0, 0, 0),
  (129, .putfield 58, 0, 12, 30, 30, 3),
  (132, .aload_n 0, 0, 0, 0, 0, 0),
  (133, .bipush 6, 0, 0, 0, 0, 0),
  (135, .newarray .int, 0, 0, 0, 0, 0),
  (137, .putfield 61, 0, 12, 31, 31, 3),
  (140, .aload_n 0, 0, 0, 0, 0, 0),
  (141, .sipush 256, 0, 0, 0, 0, 0),
  (144, .newarray .int, 0, 0, 0, 0, 0),
  (146, .putfield 64, 0, 12, 32, 32, 3),
  (149, .aload_n 0, 0, 0, 0, 0, 0),
  (150, .sipush 256, 0, 0, 0, 0, 0),
  (153, .newarray .int, 0, 0, 0, 0, 0),
  (155, .putfield 67, 0, 12, 33, 33, 3),
  (158, .aload_n 0, 0, 0, 0, 0, 0),
  (159, .sipush 256, 0, 0, 0, 0, 0),
  (162, .newarray .int, 0, 0, 0, 0, 0),
  (164, .putfield 70, 0, 12, 34, 34, 3),
  (167, .aload_n 0, 0, 0, 0, 0, 0),
  (168, .iconst 5, 0, 0, 0, 0, 0),
  (169, .newarray .int, 0, 0, 0, 0, 0),
  (171, .putfield 73, 0, 12, 35, 35, 3),
  (174, .aload_n 0, 0, 0, 0, 0, 0),
  (175, .iconst 5, 0, 0, 0, 0, 0),
  (176, .newarray .int, 0, 0, 0, 0, 0),
  (178, .putfield 76, 0, 12, 36, 36, 3),
  (181, .aload_n 0, 0, 0, 0, 0, 0),
  (182, .getfield 7, 0, 12, 0, 0, 3),
  (185, .iconst 4, 0, 0, 0, 0, 0),
  (186, .iconst (-1), 0, 0, 0, 0, 0),
  (187, .iastore, 0, 0, 0, 0, 0),
  (188, .aload_n 0, 0, 0, 0, 0, 0),
  (189, .getfield 7, 0, 12, 0, 0, 3),
  (192, .aload_n 0, 0, 0, 0, 0, 0),
  (193, .getfield 13, 0, 12, 1, 1, 3),
  (196, .invokestatic 79, 0, 146, 0, 0, 0),
  (199, .return_, 0, 0, 0, 0, 0)]
def zk_ctor (mid : Nat) : List zk_E := match mid with
  | 0 => zc_Con_init
  | 12 => zc_Law_init
  | 19 => zc_Lev_init
  | 25 => zc_Mar_init
  | 32 => zc_Pen_init
  | 41 => zc_Rea_init
  | 59 => zc_Sca_init
  | 69 => zc_Scr_init
  | 83 => zc_Ste_init
  | 87 => zc_Sto_init
  | 103 => zc_Tap_init
  | 115 => zc_Vos_init
  | 145 => zc_Mod_init
  | _ => []
abbrev zk_X : Type := Nat × List ((Nat × Nat) × Nat) × List ((Nat × Nat) × Int)
def zk_rF (rl : List ((Nat × Nat) × Nat)) : zk_F := fun c i => if 0 ≤ i then (rl.lookup (c, i.toNat)).getD 0 else 0
def zk_mF (base : zk_M) (ml : List ((Nat × Nat) × Int)) : zk_M := fun c i => if 0 ≤ i then (match ml.lookup (c, i.toNat) with
  | some x => x
  | none => base c i) else base c i
def zk_st (base : zk_M) (x : zk_X) : zk_S := (x.1, zk_rF x.2.1, zk_mF base x.2.2)
/-- no cell above N has been written -/
def zk_low (x : zk_X) : Bool := x.2.1.all (fun q => Nat.ble q.1.1 x.1) && x.2.2.all (fun q => Nat.ble q.1.1 x.1)
def zk_bud (mid N1 n : Nat) : Bool := Nat.ble (n + 1) (N1 + zk_mc mid) && (Nat.ble (zk_SZ (n + 1)) (zk_SZ N1 + zk_ms mid) && Nat.blt n 80)
def zk_dec (mid pc : Nat) (i : Instr) (len : Nat) : Bool := match decode (zk_cc mid) pc with
  | .ok (j, l) => decide (j = i) && Nat.beq l len
  | .error _ => false
def zk_nx (cs : List zk_E) (pc : Nat) : Bool := match cs with
  | [] => false
  | e :: _ => Nat.beq e.1 pc
def zk_cx : Nat → Nat → Nat → Option Nat → List zk_E → List zk_V → List zk_V → zk_X → Option (zk_X × Option (List zk_V))
  | 0, _, _, _, _, _, _, _ => none
  | _ + 1, _, _, _, [], _, _, _ => none
  | n + 1, mid, N1, stop, (pc, i, a, b, z, c, d) :: cs, ls, st, x =>
    if stop = some pc then (match st with
      | [] => some (x, some ls)
      | _ => none) else
    match i with
    | .aload_n j => match ls[j.val]? with
      | some (.inr (.inr (.inl (k + 1)))) => cond (zk_dec mid pc i 1 && zk_nx cs (pc + 1)) (zk_cx n mid N1 stop cs ls (.inr (.inr (.inl (k + 1))) :: st) x) none
      | _ => none
    | .iload_n j => match ls[j.val]? with
      | some (.inl v) => cond (zk_dec mid pc i 1 && zk_nx cs (pc + 1)) (zk_cx n mid N1 stop cs ls (.inl v :: st) x) none
      | _ => none
    | .iconst v => cond (zk_dec mid pc i 1 && (zk_nx cs (pc + 1) && decide (-2147483648 ≤ v ∧ v ≤ 2147483647))) (zk_cx n mid N1 stop cs ls (.inl v :: st) x) none
    | .bipush v => cond (zk_dec mid pc i 2 && (zk_nx cs (pc + 2) && (decide (-2147483648 ≤ v ∧ v ≤ 2147483647) && decide ((Int8.ofInt v).toInt32 = zk_I v)))) (zk_cx n mid N1 stop cs ls (.inl v :: st) x) none
    | .sipush v => cond (zk_dec mid pc i 3 && (zk_nx cs (pc + 3) && (decide (-2147483648 ≤ v ∧ v ≤ 2147483647) && decide ((Int16.ofInt v).toInt32 = zk_I v)))) (zk_cx n mid N1 stop cs ls (.inl v :: st) x) none
    | .istore_n j => match st with
      | .inl v :: st => cond (zk_dec mid pc i 1 && (zk_nx cs (pc + 1) && (zk_nl ls j.val && Nat.blt j.val (zk_mL mid)))) (zk_cx n mid N1 stop cs (ls.set j.val (.inl v)) st x) none
      | _ => none
    | .iinc j k => match ls[j]? with
      | some (.inl v) => cond (zk_dec mid pc i 3 && (zk_nx cs (pc + 3) && (zk_nl ls j && (Nat.blt j (zk_mL mid) && decide (-2147483648 ≤ v + k ∧ v + k ≤ 2147483647))))) (zk_cx n mid N1 stop cs (ls.set j (.inl (v + k))) st x) none
      | _ => none
    | .if_icmp .ge off => match st with
      | .inl w :: .inl v :: st => cond (zk_dec mid pc i 3 && (zk_pcAt cs (b - 1) ((pc : Int) + off) && zk_nx cs (pc + 3))) (if w ≤ v then zk_cx n mid N1 stop (cs.drop (b - 1)) ls st x else zk_cx n mid N1 stop cs ls st x) none
      | _ => none
    | .goto off => cond (zk_dec mid pc i 3 && zk_pcAt (zk_ctor mid) c ((pc : Int) + off)) (zk_cx n mid N1 stop ((zk_ctor mid).drop c) ls st x) none
    | .dup => match st with
      | .inr (.inr (.inl k)) :: st => cond (zk_dec mid pc i 1 && zk_nx cs (pc + 1)) (zk_cx n mid N1 stop cs ls (.inr (.inr (.inl k)) :: .inr (.inr (.inl k)) :: st) x) none
      | _ => none
    | .new idx => cond (zk_dec mid pc i 3 && (zk_nx cs (pc + 3) && (zk_CL.elem (zk_own mid, idx, b) && (Nat.blt b 13 && (Nat.beq (zk_sh (x.1 + 1)) b && (zk_low x && zk_bud mid N1 x.1)))))) (zk_cx n mid N1 stop cs ls (.inr (.inr (.inl (x.1 + 1))) :: st) (x.1 + 1, x.2)) none
    | .newarray t => match st with
      | .inl v :: st => cond (zk_dec mid pc i 2 && (zk_nx cs (pc + 2) && (!Nat.beq (zk_atc t) 98 && (Nat.beq (zk_sh (x.1 + 1)) (zk_atc t) && (decide (v = (zk_sz (x.1 + 1) : Int)) && (zk_low x && zk_bud mid N1 x.1)))))) (zk_cx n mid N1 stop cs ls (.inr (.inr (.inl (x.1 + 1))) :: st) (x.1 + 1, x.2)) none
      | _ => none
    | .anewarray idx => match st with
      | .inl v :: st => cond (zk_dec mid pc i 3 && (zk_nx cs (pc + 3) && (zk_CL.elem (zk_own mid, idx, 7) && (Nat.beq (zk_sh (x.1 + 1)) 104 && (decide (v = (zk_sz (x.1 + 1) : Int)) && (zk_low x && zk_bud mid N1 x.1)))))) (zk_cx n mid N1 stop cs ls (.inr (.inr (.inl (x.1 + 1))) :: st) (x.1 + 1, x.2)) none
      | _ => none
    | .getfield idx => match st with
      | .inr (.inr (.inl k)) :: st => cond (zk_dec mid pc i 3 && (zk_nx cs (pc + 3) && (zk_FL.elem (zk_own mid, idx, b, c) && (Nat.beq (zk_ft b c) 3 && (Nat.beq (zk_sh k) b && (Nat.ble 1 k && Nat.ble k x.1)))))) (zk_cx n mid N1 stop cs ls (.inr (.inr (.inl (zk_rF x.2.1 k (c : Int)))) :: st) x) none
      | _ => none
    | .putfield idx => match st with
      | .inl v :: .inr (.inr (.inl k)) :: st => cond (zk_dec mid pc i 3 && (zk_nx cs (pc + 3) && (zk_FL.elem (zk_own mid, idx, b, c) && (!(zk_TT b c).2.2.2 && ((Nat.beq (zk_ft b c) 0 || (Nat.beq (zk_ft b c) 2 && decide (v = 0 ∨ v = 1))) && (Nat.beq (zk_sh k) b && (Nat.ble 1 k && Nat.ble k x.1))))))) (zk_cx n mid N1 stop cs ls st (x.1, x.2.1, ((k, c), v) :: x.2.2)) none
      | .inr (.inr (.inl (r + 1))) :: .inr (.inr (.inl k)) :: st => cond (zk_dec mid pc i 3 && (zk_nx cs (pc + 3) && (zk_FL.elem (zk_own mid, idx, b, c) && ((zk_TT b c).2.2.2 && ((Nat.beq (zk_ft b c) 3 && (Nat.beq (zk_kd mid) 2 && decide ((zk_TT b c).1 = zk_cn (zk_own mid)))) && (Nat.beq (zk_sh k) b && (Nat.ble 1 k && Nat.ble k x.1))))))) (zk_cx n mid N1 stop cs ls st (x.1, ((k, c), r + 1) :: x.2.1, x.2.2)) none
      | _ => none
    | .aastore => match st with
      | .inr (.inr (.inl r)) :: .inl v :: .inr (.inr (.inl k)) :: st => cond (zk_dec mid pc i 1 && (zk_nx cs (pc + 1) && (Nat.beq (zk_sh k) 104 && (Nat.beq (zk_sh r) 7 && ((Nat.ble 1 k && Nat.ble k x.1) && ((Nat.ble 1 r && Nat.ble r x.1) && decide (0 ≤ v ∧ v < zk_szI k))))))) (zk_cx n mid N1 stop cs ls st (x.1, ((k, v.toNat), r) :: x.2.1, x.2.2)) none
      | _ => none
    | .invokespecial idx => match st with
      | .inr (.inr (.inl (k + 1))) :: st => cond (zk_dec mid pc i 3 && (zk_nx cs (pc + 3) && Nat.ble (zk_catS st) 8)) (match a with
        | 0 => cond (zk_OK.elem (zk_own mid, idx) && (Nat.ble 1 (zk_fr mid) && Nat.ble 20 (zk_lo mid))) (zk_cx n mid N1 stop cs ls st x) none
        | q => cond ((match q with
            | 1 => zk_nst.elem (zk_own mid, idx, b, "VeilOfStones")
            | _ => zk_LK.elem (zk_own mid, idx, b)) && (Nat.blt b zk_mtab.length && (Nat.beq (zk_kd b) 2 && (decide ((zk_yn b).name = "<init>") && (decide (zk_rt b = none) && (Nat.beq (zk_np b) 0 && ((Nat.ble (zk_fr b + 1) (zk_fr mid) && Nat.ble (8 + (zk_mL b + 11) + zk_lo b) (zk_lo mid)) && ((Nat.ble (x.1 + zk_mc b) (N1 + zk_mc mid) && Nat.ble (zk_SZ x.1 + zk_ms b) (zk_SZ N1 + zk_ms mid)) && (plainName (zk_yn b).cls && (Nat.ble 1 (zk_mL b) && zk_nx (zk_ctor b) 0)))))))))) (match zk_cx n b x.1 none (zk_ctor b) (zk_loc [.inr (.inr (.inl (k + 1)))] (zk_mL b)) [] x with
              | some (x', none) => zk_cx n mid N1 stop cs ls st x'
              | _ => none) none) none
      | _ => none
    | .return_ => match st with
      | [] => cond (zk_dec mid pc i 1 && (decide (zk_rt mid = none) && (Nat.beq x.1 (N1 + zk_mc mid) && Nat.beq (zk_SZ x.1) (zk_SZ N1 + zk_ms mid)))) (some (x, none)) none
      | _ => none
    | _ => none
/-! it is right *-/
theorem zk_dec_of {mid pc len : Nat} {i : Instr} (h : zk_dec mid pc i len = true) : decode (zk_cc mid) pc = .ok (i, len) := by
  unfold zk_dec at h
  split at h
  · rename_i j l hd
    rw [Bool.and_eq_true] at h
    rw [hd, of_decide_eq_true h.1, Nat.eq_of_beq_eq_true h.2]
  · cases h
theorem zk_condO {α : Type} {b : Bool} {o : Option α} {r : α} (h : cond b o none = some r) : b = true ∧ o = some r := by
  cases b with
  | true => exact ⟨rfl, h⟩
  | false => cases h
theorem zk_lk_none {α : Type} {l : List ((Nat × Nat) × α)} {n c i : Nat} (h : l.all (fun q => Nat.ble q.1.1 n) = true) (hc : n < c) : l.lookup (c, i) = none := by
  induction l with
  | nil => rfl
  | cons q l ih =>
    rw [List.all_cons, Bool.and_eq_true] at h
    have h1 := Nat.le_of_ble_eq_true h.1
    rw [List.lookup]
    have : ((c, i) == q.1) = false := by
      rw [beq_eq_false_iff_ne]
      intro e
      rw [← e] at h1
      have h1 : c ≤ n := h1
      omega
    rw [this]
    exact ih h.2
theorem zk_low_r {base : zk_M} {x : zk_X} (h : zk_low x = true) (hb : ∀ c i, 1 ≤ c → base c i = 0) (i : Int) : (zk_st base x).2.1 (x.1 + 1) i = 0 ∧ (zk_st base x).2.2 (x.1 + 1) i = 0 := by
  unfold zk_low at h
  rw [Bool.and_eq_true] at h
  refine ⟨?_, ?_⟩
  · show zk_rF x.2.1 (x.1 + 1) i = 0
    unfold zk_rF
    split
    · rw [zk_lk_none h.1 (by omega)]; rfl
    · rfl
  · show zk_mF base x.2.2 (x.1 + 1) i = 0
    unfold zk_mF
    split
    · rw [zk_lk_none h.2 (by omega)]; exact hb _ _ (by omega)
    · exact hb _ _ (by omega)
theorem zk_mF_set {base : zk_M} {x : zk_X} {k c : Nat} {v : Int} : (x.1, (zk_st base x).2.1, zk_set (zk_st base x).2.2 k (c : Int) v) = zk_st base (x.1, x.2.1, ((k, c), v) :: x.2.2) := by
  unfold zk_st
  congr 2
  funext e j
  show zk_set (zk_mF base x.2.2) k (c : Int) v e j = zk_mF base (((k, c), v) :: x.2.2) e j
  unfold zk_mF
  by_cases hj : 0 ≤ j
  · simp only [zk_set, hj, if_true, List.lookup]
    by_cases he : e = k
    · by_cases hc : j = (c : Int)
      · subst he; subst hc
        simp
      · have : ((e, j.toNat) == (k, c)) = false := by
          rw [beq_eq_false_iff_ne]; intro q; cases q; omega
        simp [he, hc, this]
        rw [he] at this
        simp [this]
    · have : ((e, j.toNat) == (k, c)) = false := by
        rw [beq_eq_false_iff_ne]; intro q; cases q; exact he rfl
      simp [he, this]
  · have hc : j ≠ (c : Int) := by omega
    simp [zk_set, hj, hc]
theorem zk_rF_set {base : zk_M} {x : zk_X} {k c r : Nat} : (x.1, zk_setR (zk_st base x).2.1 k (c : Int) r, (zk_st base x).2.2) = zk_st base (x.1, ((k, c), r) :: x.2.1, x.2.2) := by
  unfold zk_st
  congr 2
  funext e j
  show zk_setR (zk_rF x.2.1) k (c : Int) r e j = zk_rF (((k, c), r) :: x.2.1) e j
  unfold zk_rF
  by_cases hj : 0 ≤ j
  · simp only [zk_setR, hj, if_true, List.lookup]
    by_cases he : e = k
    · by_cases hc : j = (c : Int)
      · subst he; subst hc
        simp
      · have : ((e, j.toNat) == (k, c)) = false := by
          rw [beq_eq_false_iff_ne]; intro q; cases q; omega
        simp [he, hc, this]
        rw [he] at this
        simp [this]
    · have : ((e, j.toNat) == (k, c)) = false := by
        rw [beq_eq_false_iff_ne]; intro q; cases q; exact he rfl
      simp [he, this]
  · have hc : j ≠ (c : Int) := by omega
    simp [zk_setR, hj, hc]

