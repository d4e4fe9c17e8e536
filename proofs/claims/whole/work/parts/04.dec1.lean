theorem dX6_digestRules_130 : decode cX6_digestRules 130 = .ok (.iinc 5 1, 3) := by decide +kernel
theorem dX6_digestRules_133 : decode cX6_digestRules 133 = .ok (.goto (-117), 3) := by decide +kernel
theorem dX6_digestRules_136 : decode cX6_digestRules 136 = .ok (.lload_n 3, 1) := by decide +kernel
theorem dX6_digestRules_137 : decode cX6_digestRules 137 = .ok (.lreturn, 1) := by decide +kernel
theorem dX6_digestHouse_0 : decode cX6_digestHouse 0 = .ok (.lload_n 1, 1) := by decide +kernel
theorem dX6_digestHouse_1 : decode cX6_digestHouse 1 = .ok (.aload_n 0, 1) := by decide +kernel
theorem dX6_digestHouse_2 : decode cX6_digestHouse 2 = .ok (.getfield 10, 3) := by decide +kernel
theorem dX6_digestHouse_5 : decode cX6_digestHouse 5 = .ok (.getfield 178, 3) := by decide +kernel
theorem dX6_digestHouse_8 : decode cX6_digestHouse 8 = .ok (.i2l, 1) := by decide +kernel
theorem dX6_digestHouse_9 : decode cX6_digestHouse 9 = .ok (.invokestatic 357, 3) := by decide +kernel
theorem dX6_digestHouse_12 : decode cX6_digestHouse 12 = .ok (.lstore_n 3, 1) := by decide +kernel
theorem dX6_digestHouse_13 : decode cX6_digestHouse 13 = .ok (.lload_n 3, 1) := by decide +kernel
theorem dX6_digestHouse_14 : decode cX6_digestHouse 14 = .ok (.aload_n 0, 1) := by decide +kernel
theorem dX6_digestHouse_15 : decode cX6_digestHouse 15 = .ok (.getfield 10, 3) := by decide +kernel
theorem dX6_digestHouse_18 : decode cX6_digestHouse 18 = .ok (.getfield 149, 3) := by decide +kernel
theorem dX6_digestHouse_21 : decode cX6_digestHouse 21 = .ok (.i2l, 1) := by decide +kernel
theorem dX6_digestHouse_22 : decode cX6_digestHouse 22 = .ok (.invokestatic 357, 3) := by decide +kernel
theorem dX6_digestHouse_25 : decode cX6_digestHouse 25 = .ok (.lstore_n 3, 1) := by decide +kernel
theorem dX6_digestHouse_26 : decode cX6_digestHouse 26 = .ok (.lload_n 3, 1) := by decide +kernel
theorem dX6_digestHouse_27 : decode cX6_digestHouse 27 = .ok (.aload_n 0, 1) := by decide +kernel
theorem dX6_digestHouse_28 : decode cX6_digestHouse 28 = .ok (.getfield 10, 3) := by decide +kernel
theorem dX6_digestHouse_31 : decode cX6_digestHouse 31 = .ok (.aload_n 0, 1) := by decide +kernel
theorem dX6_digestHouse_32 : decode cX6_digestHouse 32 = .ok (.getfield 10, 3) := by decide +kernel
theorem dX6_digestHouse_35 : decode cX6_digestHouse 35 = .ok (.getfield 149, 3) := by decide +kernel
theorem dX6_digestHouse_38 : decode cX6_digestHouse 38 = .ok (.invokevirtual 181, 3) := by decide +kernel
theorem dX6_digestHouse_41 : decode cX6_digestHouse 41 = .ok (.i2l, 1) := by decide +kernel
theorem dX6_digestHouse_42 : decode cX6_digestHouse 42 = .ok (.invokestatic 357, 3) := by decide +kernel
theorem dX6_digestHouse_45 : decode cX6_digestHouse 45 = .ok (.lstore_n 3, 1) := by decide +kernel
theorem dX6_digestHouse_46 : decode cX6_digestHouse 46 = .ok (.lload_n 3, 1) := by decide +kernel
theorem dX6_digestHouse_47 : decode cX6_digestHouse 47 = .ok (.aload_n 0, 1) := by decide +kernel
theorem dX6_digestHouse_48 : decode cX6_digestHouse 48 = .ok (.getfield 10, 3) := by decide +kernel
theorem dX6_digestHouse_51 : decode cX6_digestHouse 51 = .ok (.aload_n 0, 1) := by decide +kernel
theorem dX6_digestHouse_52 : decode cX6_digestHouse 52 = .ok (.getfield 10, 3) := by decide +kernel
theorem dX6_digestHouse_55 : decode cX6_digestHouse 55 = .ok (.getfield 178, 3) := by decide +kernel
theorem dX6_digestHouse_58 : decode cX6_digestHouse 58 = .ok (.aload_n 0, 1) := by decide +kernel
theorem dX6_digestHouse_59 : decode cX6_digestHouse 59 = .ok (.getfield 10, 3) := by decide +kernel
theorem dX6_digestHouse_62 : decode cX6_digestHouse 62 = .ok (.getfield 149, 3) := by decide +kernel
theorem dX6_digestHouse_65 : decode cX6_digestHouse 65 = .ok (.invokevirtual 184, 3) := by decide +kernel
theorem dX6_digestHouse_68 : decode cX6_digestHouse 68 = .ok (.i2l, 1) := by decide +kernel
theorem dX6_digestHouse_69 : decode cX6_digestHouse 69 = .ok (.invokestatic 357, 3) := by decide +kernel
theorem dX6_digestHouse_72 : decode cX6_digestHouse 72 = .ok (.lstore_n 3, 1) := by decide +kernel
theorem dX6_digestHouse_73 : decode cX6_digestHouse 73 = .ok (.iconst 0, 1) := by decide +kernel
theorem dX6_digestHouse_74 : decode cX6_digestHouse 74 = .ok (.istore 5, 2) := by decide +kernel
theorem dX6_digestHouse_76 : decode cX6_digestHouse 76 = .ok (.iload 5, 2) := by decide +kernel
theorem dX6_digestHouse_78 : decode cX6_digestHouse 78 = .ok (.bipush 6, 2) := by decide +kernel
theorem dX6_digestHouse_80 : decode cX6_digestHouse 80 = .ok (.if_icmp .ge 36, 3) := by decide +kernel
theorem dX6_digestHouse_83 : decode cX6_digestHouse 83 = .ok (.lload_n 3, 1) := by decide +kernel
theorem dX6_digestHouse_84 : decode cX6_digestHouse 84 = .ok (.aload_n 0, 1) := by decide +kernel
theorem dX6_digestHouse_85 : decode cX6_digestHouse 85 = .ok (.getfield 10, 3) := by decide +kernel
theorem dX6_digestHouse_88 : decode cX6_digestHouse 88 = .ok (.iload 5, 2) := by decide +kernel
theorem dX6_digestHouse_90 : decode cX6_digestHouse 90 = .ok (.invokevirtual 187, 3) := by decide +kernel
theorem dX6_digestHouse_93 : decode cX6_digestHouse 93 = .ok (.i2l, 1) := by decide +kernel
theorem dX6_digestHouse_94 : decode cX6_digestHouse 94 = .ok (.invokestatic 357, 3) := by decide +kernel
theorem dX6_digestHouse_97 : decode cX6_digestHouse 97 = .ok (.lstore_n 3, 1) := by decide +kernel
theorem dX6_digestHouse_98 : decode cX6_digestHouse 98 = .ok (.lload_n 3, 1) := by decide +kernel
theorem dX6_digestHouse_99 : decode cX6_digestHouse 99 = .ok (.aload_n 0, 1) := by decide +kernel
theorem dX6_digestHouse_100 : decode cX6_digestHouse 100 = .ok (.iload 5, 2) := by decide +kernel
theorem dX6_digestHouse_102 : decode cX6_digestHouse 102 = .ok (.invokevirtual 229, 3) := by decide +kernel
theorem dX6_digestHouse_105 : decode cX6_digestHouse 105 = .ok (.i2l, 1) := by decide +kernel
theorem dX6_digestHouse_106 : decode cX6_digestHouse 106 = .ok (.invokestatic 357, 3) := by decide +kernel
theorem dX6_digestHouse_109 : decode cX6_digestHouse 109 = .ok (.lstore_n 3, 1) := by decide +kernel
theorem dX6_digestHouse_110 : decode cX6_digestHouse 110 = .ok (.iinc 5 1, 3) := by decide +kernel
theorem dX6_digestHouse_113 : decode cX6_digestHouse 113 = .ok (.goto (-37), 3) := by decide +kernel
theorem dX6_digestHouse_116 : decode cX6_digestHouse 116 = .ok (.lload_n 3, 1) := by decide +kernel
theorem dX6_digestHouse_117 : decode cX6_digestHouse 117 = .ok (.aload_n 0, 1) := by decide +kernel
theorem dX6_digestHouse_118 : decode cX6_digestHouse 118 = .ok (.getfield 10, 3) := by decide +kernel
theorem dX6_digestHouse_121 : decode cX6_digestHouse 121 = .ok (.getfield 193, 3) := by decide +kernel
theorem dX6_digestHouse_124 : decode cX6_digestHouse 124 = .ok (.i2l, 1) := by decide +kernel
theorem dX6_digestHouse_125 : decode cX6_digestHouse 125 = .ok (.invokestatic 357, 3) := by decide +kernel
theorem dX6_digestHouse_128 : decode cX6_digestHouse 128 = .ok (.lstore_n 3, 1) := by decide +kernel
theorem dX6_digestHouse_129 : decode cX6_digestHouse 129 = .ok (.lload_n 3, 1) := by decide +kernel
theorem dX6_digestHouse_130 : decode cX6_digestHouse 130 = .ok (.aload_n 0, 1) := by decide +kernel
theorem dX6_digestHouse_131 : decode cX6_digestHouse 131 = .ok (.getfield 10, 3) := by decide +kernel
theorem dX6_digestHouse_134 : decode cX6_digestHouse 134 = .ok (.invokevirtual 196, 3) := by decide +kernel
theorem dX6_digestHouse_137 : decode cX6_digestHouse 137 = .ok (.i2l, 1) := by decide +kernel
theorem dX6_digestHouse_138 : decode cX6_digestHouse 138 = .ok (.invokestatic 357, 3) := by decide +kernel
theorem dX6_digestHouse_141 : decode cX6_digestHouse 141 = .ok (.lreturn, 1) := by decide +kernel
theorem dX6_digestStanding_0 : decode cX6_digestStanding 0 = .ok (.aload_n 0, 1) := by decide +kernel
theorem dX6_digestStanding_1 : decode cX6_digestStanding 1 = .ok (.getfield 10, 3) := by decide +kernel
theorem dX6_digestStanding_4 : decode cX6_digestStanding 4 = .ok (.aload_n 0, 1) := by decide +kernel
theorem dX6_digestStanding_5 : decode cX6_digestStanding 5 = .ok (.getfield 10, 3) := by decide +kernel
theorem dX6_digestStanding_8 : decode cX6_digestStanding 8 = .ok (.getfield 149, 3) := by decide +kernel
theorem dX6_digestStanding_11 : decode cX6_digestStanding 11 = .ok (.invokevirtual 181, 3) := by decide +kernel
theorem dX6_digestStanding_14 : decode cX6_digestStanding 14 = .ok (.istore_n 3, 1) := by decide +kernel
theorem dX6_digestStanding_15 : decode cX6_digestStanding 15 = .ok (.lload_n 1, 1) := by decide +kernel
theorem dX6_digestStanding_16 : decode cX6_digestStanding 16 = .ok (.aload_n 0, 1) := by decide +kernel
theorem dX6_digestStanding_17 : decode cX6_digestStanding 17 = .ok (.getfield 10, 3) := by decide +kernel
theorem dX6_digestStanding_20 : decode cX6_digestStanding 20 = .ok (.iload_n 3, 1) := by decide +kernel
theorem dX6_digestStanding_21 : decode cX6_digestStanding 21 = .ok (.invokevirtual 202, 3) := by decide +kernel
theorem dX6_digestStanding_24 : decode cX6_digestStanding 24 = .ok (.lconst 0, 1) := by decide +kernel
theorem dX6_digestStanding_25 : decode cX6_digestStanding 25 = .ok (.lcmp, 1) := by decide +kernel
theorem dX6_digestStanding_26 : decode cX6_digestStanding 26 = .ok (.ifCond .eq 7, 3) := by decide +kernel
theorem dX6_digestStanding_29 : decode cX6_digestStanding 29 = .ok (.iconst 1, 1) := by decide +kernel
theorem dX6_digestStanding_30 : decode cX6_digestStanding 30 = .ok (.goto 4, 3) := by decide +kernel
theorem dX6_digestStanding_33 : decode cX6_digestStanding 33 = .ok (.iconst 0, 1) := by decide +kernel
theorem dX6_digestStanding_34 : decode cX6_digestStanding 34 = .ok (.invokestatic 361, 3) := by decide +kernel
theorem dX6_digestStanding_37 : decode cX6_digestStanding 37 = .ok (.lstore 4, 2) := by decide +kernel
theorem dX6_digestStanding_39 : decode cX6_digestStanding 39 = .ok (.lload 4, 2) := by decide +kernel
theorem dX6_digestStanding_41 : decode cX6_digestStanding 41 = .ok (.aload_n 0, 1) := by decide +kernel
theorem dX6_digestStanding_42 : decode cX6_digestStanding 42 = .ok (.getfield 10, 3) := by decide +kernel
theorem dX6_digestStanding_45 : decode cX6_digestStanding 45 = .ok (.iload_n 3, 1) := by decide +kernel
theorem dX6_digestStanding_46 : decode cX6_digestStanding 46 = .ok (.iconst 0, 1) := by decide +kernel
theorem dX6_digestStanding_47 : decode cX6_digestStanding 47 = .ok (.iconst 0, 1) := by decide +kernel
theorem dX6_digestStanding_48 : decode cX6_digestStanding 48 = .ok (.iconst 0, 1) := by decide +kernel
theorem dX6_digestStanding_49 : decode cX6_digestStanding 49 = .ok (.invokestatic 206, 3) := by decide +kernel
theorem dX6_digestStanding_52 : decode cX6_digestStanding 52 = .ok (.ifCond .le 7, 3) := by decide +kernel
theorem dX6_digestStanding_55 : decode cX6_digestStanding 55 = .ok (.iconst 1, 1) := by decide +kernel
theorem dX6_digestStanding_56 : decode cX6_digestStanding 56 = .ok (.goto 4, 3) := by decide +kernel
theorem dX6_digestStanding_59 : decode cX6_digestStanding 59 = .ok (.iconst 0, 1) := by decide +kernel
theorem dX6_digestStanding_60 : decode cX6_digestStanding 60 = .ok (.invokestatic 361, 3) := by decide +kernel
theorem dX6_digestStanding_63 : decode cX6_digestStanding 63 = .ok (.lstore 4, 2) := by decide +kernel
theorem dX6_digestStanding_65 : decode cX6_digestStanding 65 = .ok (.aload_n 0, 1) := by decide +kernel
theorem dX6_digestStanding_66 : decode cX6_digestStanding 66 = .ok (.getfield 48, 3) := by decide +kernel
theorem dX6_digestStanding_69 : decode cX6_digestStanding 69 = .ok (.aload_n 0, 1) := by decide +kernel
theorem dX6_digestStanding_70 : decode cX6_digestStanding 70 = .ok (.getfield 10, 3) := by decide +kernel
theorem dX6_digestStanding_73 : decode cX6_digestStanding 73 = .ok (.iload_n 3, 1) := by decide +kernel
theorem dX6_digestStanding_74 : decode cX6_digestStanding 74 = .ok (.invokevirtual 210, 3) := by decide +kernel
theorem dX6_digestStanding_77 : decode cX6_digestStanding 77 = .ok (.lload 4, 2) := by decide +kernel
theorem dX6_digestStanding_79 : decode cX6_digestStanding 79 = .ok (.aload_n 0, 1) := by decide +kernel
theorem dX6_digestStanding_80 : decode cX6_digestStanding 80 = .ok (.getfield 48, 3) := by decide +kernel
theorem dX6_digestStanding_83 : decode cX6_digestStanding 83 = .ok (.invokevirtual 214, 3) := by decide +kernel
theorem dX6_digestStanding_86 : decode cX6_digestStanding 86 = .ok (.ifCond .ne 7, 3) := by decide +kernel
theorem dX6_digestStanding_89 : decode cX6_digestStanding 89 = .ok (.iconst 1, 1) := by decide +kernel
theorem dX6_digestStanding_90 : decode cX6_digestStanding 90 = .ok (.goto 4, 3) := by decide +kernel
theorem dX6_digestStanding_93 : decode cX6_digestStanding 93 = .ok (.iconst 0, 1) := by decide +kernel
theorem dX6_digestStanding_94 : decode cX6_digestStanding 94 = .ok (.invokestatic 361, 3) := by decide +kernel
theorem dX6_digestStanding_97 : decode cX6_digestStanding 97 = .ok (.lstore 4, 2) := by decide +kernel
theorem dX6_digestStanding_99 : decode cX6_digestStanding 99 = .ok (.lload 4, 2) := by decide +kernel
theorem dX6_digestStanding_101 : decode cX6_digestStanding 101 = .ok (.aload_n 0, 1) := by decide +kernel
theorem dX6_digestStanding_102 : decode cX6_digestStanding 102 = .ok (.getfield 48, 3) := by decide +kernel
theorem dX6_digestStanding_105 : decode cX6_digestStanding 105 = .ok (.getfield 217, 3) := by decide +kernel
theorem dX6_digestStanding_108 : decode cX6_digestStanding 108 = .ok (.i2l, 1) := by decide +kernel
theorem dX6_digestStanding_109 : decode cX6_digestStanding 109 = .ok (.invokestatic 357, 3) := by decide +kernel
theorem dX6_digestStanding_112 : decode cX6_digestStanding 112 = .ok (.lstore 4, 2) := by decide +kernel
theorem dX6_digestStanding_114 : decode cX6_digestStanding 114 = .ok (.lload 4, 2) := by decide +kernel
theorem dX6_digestStanding_116 : decode cX6_digestStanding 116 = .ok (.aload_n 0, 1) := by decide +kernel
theorem dX6_digestStanding_117 : decode cX6_digestStanding 117 = .ok (.invokevirtual 218, 3) := by decide +kernel
theorem dX6_digestStanding_120 : decode cX6_digestStanding 120 = .ok (.i2l, 1) := by decide +kernel
theorem dX6_digestStanding_121 : decode cX6_digestStanding 121 = .ok (.invokestatic 357, 3) := by decide +kernel
theorem dX6_digestStanding_124 : decode cX6_digestStanding 124 = .ok (.lstore 4, 2) := by decide +kernel
theorem dX6_digestStanding_126 : decode cX6_digestStanding 126 = .ok (.lload 4, 2) := by decide +kernel
theorem dX6_digestStanding_128 : decode cX6_digestStanding 128 = .ok (.aload_n 0, 1) := by decide +kernel
theorem dX6_digestStanding_129 : decode cX6_digestStanding 129 = .ok (.invokevirtual 364, 3) := by decide +kernel
theorem dX6_digestStanding_132 : decode cX6_digestStanding 132 = .ok (.i2l, 1) := by decide +kernel
theorem dX6_digestStanding_133 : decode cX6_digestStanding 133 = .ok (.invokestatic 357, 3) := by decide +kernel
theorem dX6_digestStanding_136 : decode cX6_digestStanding 136 = .ok (.lstore 4, 2) := by decide +kernel
theorem dX6_digestStanding_138 : decode cX6_digestStanding 138 = .ok (.lload 4, 2) := by decide +kernel
theorem dX6_digestStanding_140 : decode cX6_digestStanding 140 = .ok (.aload_n 0, 1) := by decide +kernel
theorem dX6_digestStanding_141 : decode cX6_digestStanding 141 = .ok (.invokevirtual 367, 3) := by decide +kernel
theorem dX6_digestStanding_144 : decode cX6_digestStanding 144 = .ok (.i2l, 1) := by decide +kernel
theorem dX6_digestStanding_145 : decode cX6_digestStanding 145 = .ok (.invokestatic 357, 3) := by decide +kernel
theorem dX6_digestStanding_148 : decode cX6_digestStanding 148 = .ok (.lreturn, 1) := by decide +kernel
theorem dX6_digestClashes_0 : decode cX6_digestClashes 0 = .ok (.lload_n 1, 1) := by decide +kernel
theorem dX6_digestClashes_1 : decode cX6_digestClashes 1 = .ok (.aload_n 0, 1) := by decide +kernel
theorem dX6_digestClashes_2 : decode cX6_digestClashes 2 = .ok (.invokevirtual 370, 3) := by decide +kernel
theorem dX6_digestClashes_5 : decode cX6_digestClashes 5 = .ok (.i2l, 1) := by decide +kernel
theorem dX6_digestClashes_6 : decode cX6_digestClashes 6 = .ok (.invokestatic 357, 3) := by decide +kernel
theorem dX6_digestClashes_9 : decode cX6_digestClashes 9 = .ok (.lstore_n 3, 1) := by decide +kernel
theorem dX6_digestClashes_10 : decode cX6_digestClashes 10 = .ok (.lload_n 3, 1) := by decide +kernel
theorem dX6_digestClashes_11 : decode cX6_digestClashes 11 = .ok (.aload_n 0, 1) := by decide +kernel
theorem dX6_digestClashes_12 : decode cX6_digestClashes 12 = .ok (.invokevirtual 373, 3) := by decide +kernel
theorem dX6_digestClashes_15 : decode cX6_digestClashes 15 = .ok (.i2l, 1) := by decide +kernel
theorem dX6_digestClashes_16 : decode cX6_digestClashes 16 = .ok (.invokestatic 357, 3) := by decide +kernel
theorem dX6_digestClashes_19 : decode cX6_digestClashes 19 = .ok (.lstore_n 3, 1) := by decide +kernel
theorem dX6_digestClashes_20 : decode cX6_digestClashes 20 = .ok (.lload_n 3, 1) := by decide +kernel
theorem dX6_digestClashes_21 : decode cX6_digestClashes 21 = .ok (.aload_n 0, 1) := by decide +kernel
theorem dX6_digestClashes_22 : decode cX6_digestClashes 22 = .ok (.invokevirtual 376, 3) := by decide +kernel
theorem dX6_digestClashes_25 : decode cX6_digestClashes 25 = .ok (.i2l, 1) := by decide +kernel
theorem dX6_digestClashes_26 : decode cX6_digestClashes 26 = .ok (.invokestatic 357, 3) := by decide +kernel
theorem dX6_digestClashes_29 : decode cX6_digestClashes 29 = .ok (.lstore_n 3, 1) := by decide +kernel
theorem dX6_digestClashes_30 : decode cX6_digestClashes 30 = .ok (.lload_n 3, 1) := by decide +kernel
theorem dX6_digestClashes_31 : decode cX6_digestClashes 31 = .ok (.aload_n 0, 1) := by decide +kernel
theorem dX6_digestClashes_32 : decode cX6_digestClashes 32 = .ok (.invokevirtual 379, 3) := by decide +kernel
theorem dX6_digestClashes_35 : decode cX6_digestClashes 35 = .ok (.i2l, 1) := by decide +kernel
theorem dX6_digestClashes_36 : decode cX6_digestClashes 36 = .ok (.invokestatic 357, 3) := by decide +kernel
theorem dX6_digestClashes_39 : decode cX6_digestClashes 39 = .ok (.lstore_n 3, 1) := by decide +kernel
theorem dX6_digestClashes_40 : decode cX6_digestClashes 40 = .ok (.lload_n 3, 1) := by decide +kernel
theorem dX6_digestClashes_41 : decode cX6_digestClashes 41 = .ok (.aload_n 0, 1) := by decide +kernel
theorem dX6_digestClashes_42 : decode cX6_digestClashes 42 = .ok (.invokevirtual 382, 3) := by decide +kernel
theorem dX6_digestClashes_45 : decode cX6_digestClashes 45 = .ok (.i2l, 1) := by decide +kernel
theorem dX6_digestClashes_46 : decode cX6_digestClashes 46 = .ok (.invokestatic 357, 3) := by decide +kernel
theorem dX6_digestClashes_49 : decode cX6_digestClashes 49 = .ok (.lstore_n 3, 1) := by decide +kernel
theorem dX6_digestClashes_50 : decode cX6_digestClashes 50 = .ok (.lload_n 3, 1) := by decide +kernel
theorem dX6_digestClashes_51 : decode cX6_digestClashes 51 = .ok (.aload_n 0, 1) := by decide +kernel
theorem dX6_digestClashes_52 : decode cX6_digestClashes 52 = .ok (.invokevirtual 385, 3) := by decide +kernel
theorem dX6_digestClashes_55 : decode cX6_digestClashes 55 = .ok (.i2l, 1) := by decide +kernel
theorem dX6_digestClashes_56 : decode cX6_digestClashes 56 = .ok (.invokestatic 357, 3) := by decide +kernel
theorem dX6_digestClashes_59 : decode cX6_digestClashes 59 = .ok (.lreturn, 1) := by decide +kernel
theorem dX6_digestPeace_0 : decode cX6_digestPeace 0 = .ok (.lload_n 1, 1) := by decide +kernel
theorem dX6_digestPeace_1 : decode cX6_digestPeace 1 = .ok (.aload_n 0, 1) := by decide +kernel
theorem dX6_digestPeace_2 : decode cX6_digestPeace 2 = .ok (.invokevirtual 388, 3) := by decide +kernel
theorem dX6_digestPeace_5 : decode cX6_digestPeace 5 = .ok (.i2l, 1) := by decide +kernel
theorem dX6_digestPeace_6 : decode cX6_digestPeace 6 = .ok (.invokestatic 357, 3) := by decide +kernel
theorem dX6_digestPeace_9 : decode cX6_digestPeace 9 = .ok (.lstore_n 3, 1) := by decide +kernel
theorem dX6_digestPeace_10 : decode cX6_digestPeace 10 = .ok (.lload_n 3, 1) := by decide +kernel
theorem dX6_digestPeace_11 : decode cX6_digestPeace 11 = .ok (.aload_n 0, 1) := by decide +kernel
theorem dX6_digestPeace_12 : decode cX6_digestPeace 12 = .ok (.invokevirtual 391, 3) := by decide +kernel
theorem dX6_digestPeace_15 : decode cX6_digestPeace 15 = .ok (.i2l, 1) := by decide +kernel
theorem dX6_digestPeace_16 : decode cX6_digestPeace 16 = .ok (.invokestatic 357, 3) := by decide +kernel
theorem dX6_digestPeace_19 : decode cX6_digestPeace 19 = .ok (.lstore_n 3, 1) := by decide +kernel
theorem dX6_digestPeace_20 : decode cX6_digestPeace 20 = .ok (.lload_n 3, 1) := by decide +kernel
theorem dX6_digestPeace_21 : decode cX6_digestPeace 21 = .ok (.aload_n 0, 1) := by decide +kernel
theorem dX6_digestPeace_22 : decode cX6_digestPeace 22 = .ok (.invokevirtual 394, 3) := by decide +kernel
theorem dX6_digestPeace_25 : decode cX6_digestPeace 25 = .ok (.i2l, 1) := by decide +kernel
theorem dX6_digestPeace_26 : decode cX6_digestPeace 26 = .ok (.invokestatic 357, 3) := by decide +kernel
theorem dX6_digestPeace_29 : decode cX6_digestPeace 29 = .ok (.lstore_n 3, 1) := by decide +kernel
theorem dX6_digestPeace_30 : decode cX6_digestPeace 30 = .ok (.lload_n 3, 1) := by decide +kernel
theorem dX6_digestPeace_31 : decode cX6_digestPeace 31 = .ok (.aload_n 0, 1) := by decide +kernel
theorem dX6_digestPeace_32 : decode cX6_digestPeace 32 = .ok (.invokevirtual 397, 3) := by decide +kernel
theorem dX6_digestPeace_35 : decode cX6_digestPeace 35 = .ok (.i2l, 1) := by decide +kernel
theorem dX6_digestPeace_36 : decode cX6_digestPeace 36 = .ok (.invokestatic 357, 3) := by decide +kernel
theorem dX6_digestPeace_39 : decode cX6_digestPeace 39 = .ok (.lstore_n 3, 1) := by decide +kernel
theorem dX6_digestPeace_40 : decode cX6_digestPeace 40 = .ok (.lload_n 3, 1) := by decide +kernel
theorem dX6_digestPeace_41 : decode cX6_digestPeace 41 = .ok (.aload_n 0, 1) := by decide +kernel
theorem dX6_digestPeace_42 : decode cX6_digestPeace 42 = .ok (.invokevirtual 400, 3) := by decide +kernel
theorem dX6_digestPeace_45 : decode cX6_digestPeace 45 = .ok (.i2l, 1) := by decide +kernel
theorem dX6_digestPeace_46 : decode cX6_digestPeace 46 = .ok (.invokestatic 357, 3) := by decide +kernel
theorem dX6_digestPeace_49 : decode cX6_digestPeace 49 = .ok (.lstore_n 3, 1) := by decide +kernel
theorem dX6_digestPeace_50 : decode cX6_digestPeace 50 = .ok (.lload_n 3, 1) := by decide +kernel
theorem dX6_digestPeace_51 : decode cX6_digestPeace 51 = .ok (.aload_n 0, 1) := by decide +kernel
theorem dX6_digestPeace_52 : decode cX6_digestPeace 52 = .ok (.invokevirtual 403, 3) := by decide +kernel
theorem dX6_digestPeace_55 : decode cX6_digestPeace 55 = .ok (.i2l, 1) := by decide +kernel
theorem dX6_digestPeace_56 : decode cX6_digestPeace 56 = .ok (.invokestatic 357, 3) := by decide +kernel
theorem dX6_digestPeace_59 : decode cX6_digestPeace 59 = .ok (.lstore_n 3, 1) := by decide +kernel
theorem dX6_digestPeace_60 : decode cX6_digestPeace 60 = .ok (.lload_n 3, 1) := by decide +kernel
theorem dX6_digestPeace_61 : decode cX6_digestPeace 61 = .ok (.aload_n 0, 1) := by decide +kernel
theorem dX6_digestPeace_62 : decode cX6_digestPeace 62 = .ok (.getfield 10, 3) := by decide +kernel
theorem dX6_digestPeace_65 : decode cX6_digestPeace 65 = .ok (.bipush 9, 2) := by decide +kernel
theorem dX6_digestPeace_67 : decode cX6_digestPeace 67 = .ok (.invokevirtual 279, 3) := by decide +kernel
theorem dX6_digestPeace_70 : decode cX6_digestPeace 70 = .ok (.i2l, 1) := by decide +kernel
theorem dX6_digestPeace_71 : decode cX6_digestPeace 71 = .ok (.invokestatic 357, 3) := by decide +kernel
theorem dX6_digestPeace_74 : decode cX6_digestPeace 74 = .ok (.lreturn, 1) := by decide +kernel
theorem dX6_digestRest_0 : decode cX6_digestRest 0 = .ok (.lload_n 1, 1) := by decide +kernel
theorem dX6_digestRest_1 : decode cX6_digestRest 1 = .ok (.aload_n 0, 1) := by decide +kernel
theorem dX6_digestRest_2 : decode cX6_digestRest 2 = .ok (.getfield 26, 3) := by decide +kernel
theorem dX6_digestRest_5 : decode cX6_digestRest 5 = .ok (.getfield 154, 3) := by decide +kernel
theorem dX6_digestRest_8 : decode cX6_digestRest 8 = .ok (.i2l, 1) := by decide +kernel
theorem dX6_digestRest_9 : decode cX6_digestRest 9 = .ok (.invokestatic 357, 3) := by decide +kernel
theorem dX6_digestRest_12 : decode cX6_digestRest 12 = .ok (.lstore_n 3, 1) := by decide +kernel
theorem dX6_digestRest_13 : decode cX6_digestRest 13 = .ok (.lload_n 3, 1) := by decide +kernel
theorem dX6_digestRest_14 : decode cX6_digestRest 14 = .ok (.aload_n 0, 1) := by decide +kernel
theorem dX6_digestRest_15 : decode cX6_digestRest 15 = .ok (.invokevirtual 406, 3) := by decide +kernel
theorem dX6_digestRest_18 : decode cX6_digestRest 18 = .ok (.invokestatic 410, 3) := by decide +kernel
theorem dX6_digestRest_21 : decode cX6_digestRest 21 = .ok (.invokestatic 357, 3) := by decide +kernel
theorem dX6_digestRest_24 : decode cX6_digestRest 24 = .ok (.lstore_n 3, 1) := by decide +kernel
theorem dX6_digestRest_25 : decode cX6_digestRest 25 = .ok (.lload_n 3, 1) := by decide +kernel
theorem dX6_digestRest_26 : decode cX6_digestRest 26 = .ok (.aload_n 0, 1) := by decide +kernel
theorem dX6_digestRest_27 : decode cX6_digestRest 27 = .ok (.invokevirtual 414, 3) := by decide +kernel
theorem dX6_digestRest_30 : decode cX6_digestRest 30 = .ok (.invokestatic 418, 3) := by decide +kernel
theorem dX6_digestRest_33 : decode cX6_digestRest 33 = .ok (.i2l, 1) := by decide +kernel
theorem dX6_digestRest_34 : decode cX6_digestRest 34 = .ok (.invokestatic 357, 3) := by decide +kernel
theorem dX6_digestRest_37 : decode cX6_digestRest 37 = .ok (.lstore_n 3, 1) := by decide +kernel
theorem dX6_digestRest_38 : decode cX6_digestRest 38 = .ok (.lload_n 3, 1) := by decide +kernel
theorem dX6_digestRest_39 : decode cX6_digestRest 39 = .ok (.aload_n 0, 1) := by decide +kernel
theorem dX6_digestRest_40 : decode cX6_digestRest 40 = .ok (.getfield 19, 3) := by decide +kernel
theorem dX6_digestRest_43 : decode cX6_digestRest 43 = .ok (.invokestatic 361, 3) := by decide +kernel
theorem dX6_digestRest_46 : decode cX6_digestRest 46 = .ok (.lstore_n 3, 1) := by decide +kernel
theorem dX6_digestRest_47 : decode cX6_digestRest 47 = .ok (.lload_n 3, 1) := by decide +kernel
theorem dX6_digestRest_48 : decode cX6_digestRest 48 = .ok (.aload_n 0, 1) := by decide +kernel
theorem dX6_digestRest_49 : decode cX6_digestRest 49 = .ok (.getfield 34, 3) := by decide +kernel
theorem dX6_digestRest_52 : decode cX6_digestRest 52 = .ok (.i2l, 1) := by decide +kernel
theorem dX6_digestRest_53 : decode cX6_digestRest 53 = .ok (.invokestatic 357, 3) := by decide +kernel
theorem dX6_digestRest_56 : decode cX6_digestRest 56 = .ok (.lstore_n 3, 1) := by decide +kernel
theorem dX6_digestRest_57 : decode cX6_digestRest 57 = .ok (.iconst 0, 1) := by decide +kernel
theorem dX6_digestRest_58 : decode cX6_digestRest 58 = .ok (.istore 5, 2) := by decide +kernel
theorem dX6_digestRest_60 : decode cX6_digestRest 60 = .ok (.iload 5, 2) := by decide +kernel
theorem dX6_digestRest_62 : decode cX6_digestRest 62 = .ok (.aload_n 0, 1) := by decide +kernel
theorem dX6_digestRest_63 : decode cX6_digestRest 63 = .ok (.getfield 34, 3) := by decide +kernel
theorem dX6_digestRest_66 : decode cX6_digestRest 66 = .ok (.if_icmp .ge 32, 3) := by decide +kernel
theorem dX6_digestRest_69 : decode cX6_digestRest 69 = .ok (.iload 5, 2) := by decide +kernel
theorem dX6_digestRest_71 : decode cX6_digestRest 71 = .ok (.aload_n 0, 1) := by decide +kernel
theorem dX6_digestRest_72 : decode cX6_digestRest 72 = .ok (.getfield 30, 3) := by decide +kernel
theorem dX6_digestRest_75 : decode cX6_digestRest 75 = .ok (.arraylength, 1) := by decide +kernel
theorem dX6_digestRest_76 : decode cX6_digestRest 76 = .ok (.if_icmp .ge 22, 3) := by decide +kernel
theorem dX6_digestRest_79 : decode cX6_digestRest 79 = .ok (.lload_n 3, 1) := by decide +kernel
theorem dX6_digestRest_80 : decode cX6_digestRest 80 = .ok (.aload_n 0, 1) := by decide +kernel
theorem dX6_digestRest_81 : decode cX6_digestRest 81 = .ok (.getfield 30, 3) := by decide +kernel
theorem dX6_digestRest_84 : decode cX6_digestRest 84 = .ok (.iload 5, 2) := by decide +kernel
theorem dX6_digestRest_86 : decode cX6_digestRest 86 = .ok (.iaload, 1) := by decide +kernel
theorem dX6_digestRest_87 : decode cX6_digestRest 87 = .ok (.i2l, 1) := by decide +kernel
theorem dX6_digestRest_88 : decode cX6_digestRest 88 = .ok (.invokestatic 357, 3) := by decide +kernel
theorem dX6_digestRest_91 : decode cX6_digestRest 91 = .ok (.lstore_n 3, 1) := by decide +kernel
theorem dX6_digestRest_92 : decode cX6_digestRest 92 = .ok (.iinc 5 1, 3) := by decide +kernel
theorem dX6_digestRest_95 : decode cX6_digestRest 95 = .ok (.goto (-35), 3) := by decide +kernel
theorem dX6_digestRest_98 : decode cX6_digestRest 98 = .ok (.lload_n 3, 1) := by decide +kernel
theorem dX6_digestRest_99 : decode cX6_digestRest 99 = .ok (.lreturn, 1) := by decide +kernel
theorem dX6_bitsOfShare_0 : decode cX6_bitsOfShare 0 = .ok (.dload_n 0, 1) := by decide +kernel
theorem dX6_bitsOfShare_1 : decode cX6_bitsOfShare 1 = .ok (.dconst 0, 1) := by decide +kernel
theorem dX6_bitsOfShare_2 : decode cX6_bitsOfShare 2 = .ok (.dcmp .g, 1) := by decide +kernel
theorem dX6_bitsOfShare_3 : decode cX6_bitsOfShare 3 = .ok (.ifCond .gt 5, 3) := by decide +kernel
theorem dX6_bitsOfShare_6 : decode cX6_bitsOfShare 6 = .ok (.lconst 0, 1) := by decide +kernel
theorem dX6_bitsOfShare_7 : decode cX6_bitsOfShare 7 = .ok (.lreturn, 1) := by decide +kernel
theorem dX6_bitsOfShare_8 : decode cX6_bitsOfShare 8 = .ok (.dload_n 0, 1) := by decide +kernel
theorem dX6_bitsOfShare_9 : decode cX6_bitsOfShare 9 = .ok (.dstore_n 2, 1) := by decide +kernel
theorem dX6_bitsOfShare_10 : decode cX6_bitsOfShare 10 = .ok (.ldc2_w 422, 3) := by decide +kernel
theorem dX6_bitsOfShare_13 : decode cX6_bitsOfShare 13 = .ok (.lstore 4, 2) := by decide +kernel
theorem dX6_bitsOfShare_15 : decode cX6_bitsOfShare 15 = .ok (.dload_n 2, 1) := by decide +kernel
theorem dX6_bitsOfShare_16 : decode cX6_bitsOfShare 16 = .ok (.dconst 1, 1) := by decide +kernel
theorem dX6_bitsOfShare_17 : decode cX6_bitsOfShare 17 = .ok (.dcmp .g, 1) := by decide +kernel
theorem dX6_bitsOfShare_18 : decode cX6_bitsOfShare 18 = .ok (.ifCond .ge 25, 3) := by decide +kernel
theorem dX6_bitsOfShare_21 : decode cX6_bitsOfShare 21 = .ok (.lload 4, 2) := by decide +kernel
theorem dX6_bitsOfShare_23 : decode cX6_bitsOfShare 23 = .ok (.lconst 1, 1) := by decide +kernel
theorem dX6_bitsOfShare_24 : decode cX6_bitsOfShare 24 = .ok (.lcmp, 1) := by decide +kernel
theorem dX6_bitsOfShare_25 : decode cX6_bitsOfShare 25 = .ok (.ifCond .le 18, 3) := by decide +kernel
theorem dX6_bitsOfShare_28 : decode cX6_bitsOfShare 28 = .ok (.dload_n 2, 1) := by decide +kernel
theorem dX6_bitsOfShare_29 : decode cX6_bitsOfShare 29 = .ok (.ldc2_w 424, 3) := by decide +kernel
theorem dX6_bitsOfShare_32 : decode cX6_bitsOfShare 32 = .ok (.dmul, 1) := by decide +kernel
theorem dX6_bitsOfShare_33 : decode cX6_bitsOfShare 33 = .ok (.dstore_n 2, 1) := by decide +kernel
theorem dX6_bitsOfShare_34 : decode cX6_bitsOfShare 34 = .ok (.lload 4, 2) := by decide +kernel
theorem dX6_bitsOfShare_36 : decode cX6_bitsOfShare 36 = .ok (.lconst 1, 1) := by decide +kernel
theorem dX6_bitsOfShare_37 : decode cX6_bitsOfShare 37 = .ok (.lsub, 1) := by decide +kernel
theorem dX6_bitsOfShare_38 : decode cX6_bitsOfShare 38 = .ok (.lstore 4, 2) := by decide +kernel
theorem dX6_bitsOfShare_40 : decode cX6_bitsOfShare 40 = .ok (.goto (-25), 3) := by decide +kernel
theorem dX6_bitsOfShare_43 : decode cX6_bitsOfShare 43 = .ok (.lload 4, 2) := by decide +kernel
theorem dX6_bitsOfShare_45 : decode cX6_bitsOfShare 45 = .ok (.bipush 52, 2) := by decide +kernel
theorem dX6_bitsOfShare_47 : decode cX6_bitsOfShare 47 = .ok (.lshl, 1) := by decide +kernel
theorem dX6_bitsOfShare_48 : decode cX6_bitsOfShare 48 = .ok (.dload_n 2, 1) := by decide +kernel
theorem dX6_bitsOfShare_49 : decode cX6_bitsOfShare 49 = .ok (.dconst 1, 1) := by decide +kernel
theorem dX6_bitsOfShare_50 : decode cX6_bitsOfShare 50 = .ok (.dsub, 1) := by decide +kernel
theorem dX6_bitsOfShare_51 : decode cX6_bitsOfShare 51 = .ok (.ldc2_w 426, 3) := by decide +kernel
theorem dX6_bitsOfShare_54 : decode cX6_bitsOfShare 54 = .ok (.dmul, 1) := by decide +kernel
theorem dX6_bitsOfShare_55 : decode cX6_bitsOfShare 55 = .ok (.d2l, 1) := by decide +kernel
theorem dX6_bitsOfShare_56 : decode cX6_bitsOfShare 56 = .ok (.ladd, 1) := by decide +kernel
theorem dX6_bitsOfShare_57 : decode cX6_bitsOfShare 57 = .ok (.lreturn, 1) := by decide +kernel
theorem dX6_bitsOfMean_0 : decode cX6_bitsOfMean 0 = .ok (.fload_n 0, 1) := by decide +kernel
theorem dX6_bitsOfMean_1 : decode cX6_bitsOfMean 1 = .ok (.fconst 0, 1) := by decide +kernel
theorem dX6_bitsOfMean_2 : decode cX6_bitsOfMean 2 = .ok (.fcmp .g, 1) := by decide +kernel
theorem dX6_bitsOfMean_3 : decode cX6_bitsOfMean 3 = .ok (.ifCond .gt 5, 3) := by decide +kernel
theorem dX6_bitsOfMean_6 : decode cX6_bitsOfMean 6 = .ok (.iconst 0, 1) := by decide +kernel
theorem dX6_bitsOfMean_7 : decode cX6_bitsOfMean 7 = .ok (.ireturn, 1) := by decide +kernel
theorem dX6_bitsOfMean_8 : decode cX6_bitsOfMean 8 = .ok (.fload_n 0, 1) := by decide +kernel
theorem dX6_bitsOfMean_9 : decode cX6_bitsOfMean 9 = .ok (.fstore_n 1, 1) := by decide +kernel
theorem dX6_bitsOfMean_10 : decode cX6_bitsOfMean 10 = .ok (.bipush 127, 2) := by decide +kernel
theorem dX6_bitsOfMean_12 : decode cX6_bitsOfMean 12 = .ok (.istore_n 2, 1) := by decide +kernel
theorem dX6_bitsOfMean_13 : decode cX6_bitsOfMean 13 = .ok (.fload_n 1, 1) := by decide +kernel
theorem dX6_bitsOfMean_14 : decode cX6_bitsOfMean 14 = .ok (.fconst 2, 1) := by decide +kernel
theorem dX6_bitsOfMean_15 : decode cX6_bitsOfMean 15 = .ok (.fcmp .l, 1) := by decide +kernel
theorem dX6_bitsOfMean_16 : decode cX6_bitsOfMean 16 = .ok (.ifCond .lt 20, 3) := by decide +kernel
theorem dX6_bitsOfMean_19 : decode cX6_bitsOfMean 19 = .ok (.iload_n 2, 1) := by decide +kernel
theorem dX6_bitsOfMean_20 : decode cX6_bitsOfMean 20 = .ok (.sipush 254, 3) := by decide +kernel
theorem dX6_bitsOfMean_23 : decode cX6_bitsOfMean 23 = .ok (.if_icmp .ge 13, 3) := by decide +kernel
theorem dX6_bitsOfMean_26 : decode cX6_bitsOfMean 26 = .ok (.fload_n 1, 1) := by decide +kernel
theorem dX6_bitsOfMean_27 : decode cX6_bitsOfMean 27 = .ok (.fconst 2, 1) := by decide +kernel
theorem dX6_bitsOfMean_28 : decode cX6_bitsOfMean 28 = .ok (.fdiv, 1) := by decide +kernel
theorem dX6_bitsOfMean_29 : decode cX6_bitsOfMean 29 = .ok (.fstore_n 1, 1) := by decide +kernel
theorem dX6_bitsOfMean_30 : decode cX6_bitsOfMean 30 = .ok (.iinc 2 1, 3) := by decide +kernel
theorem dX6_bitsOfMean_33 : decode cX6_bitsOfMean 33 = .ok (.goto (-20), 3) := by decide +kernel
theorem dX6_bitsOfMean_36 : decode cX6_bitsOfMean 36 = .ok (.iload_n 2, 1) := by decide +kernel
theorem dX6_bitsOfMean_37 : decode cX6_bitsOfMean 37 = .ok (.bipush 23, 2) := by decide +kernel
theorem dX6_bitsOfMean_39 : decode cX6_bitsOfMean 39 = .ok (.ishl, 1) := by decide +kernel
theorem dX6_bitsOfMean_40 : decode cX6_bitsOfMean 40 = .ok (.fload_n 1, 1) := by decide +kernel
theorem dX6_bitsOfMean_41 : decode cX6_bitsOfMean 41 = .ok (.fconst 1, 1) := by decide +kernel
theorem dX6_bitsOfMean_42 : decode cX6_bitsOfMean 42 = .ok (.fsub, 1) := by decide +kernel
theorem dX6_bitsOfMean_43 : decode cX6_bitsOfMean 43 = .ok (.ldc_w 428, 3) := by decide +kernel
theorem dX6_bitsOfMean_46 : decode cX6_bitsOfMean 46 = .ok (.fmul, 1) := by decide +kernel
theorem dX6_bitsOfMean_47 : decode cX6_bitsOfMean 47 = .ok (.f2i, 1) := by decide +kernel
theorem dX6_bitsOfMean_48 : decode cX6_bitsOfMean 48 = .ok (.iadd, 1) := by decide +kernel
theorem dX6_bitsOfMean_49 : decode cX6_bitsOfMean 49 = .ok (.ireturn, 1) := by decide +kernel
theorem dX7_init_0 : decode cX7_init 0 = .ok (.aload_n 0, 1) := by decide +kernel
theorem dX7_init_1 : decode cX7_init 1 = .ok (.invokespecial 1, 3) := by decide +kernel
theorem dX7_init_4 : decode cX7_init 4 = .ok (.aload_n 0, 1) := by decide +kernel
theorem dX7_init_5 : decode cX7_init 5 = .ok (.sipush 520, 3) := by decide +kernel
theorem dX7_init_8 : decode cX7_init 8 = .ok (.newarray .int, 2) := by decide +kernel
theorem dX7_init_10 : decode cX7_init 10 = .ok (.putfield 7, 3) := by decide +kernel
theorem dX7_init_13 : decode cX7_init 13 = .ok (.aload_n 0, 1) := by decide +kernel
theorem dX7_init_14 : decode cX7_init 14 = .ok (.bipush 60, 2) := by decide +kernel
theorem dX7_init_16 : decode cX7_init 16 = .ok (.newarray .char, 2) := by decide +kernel
theorem dX7_init_18 : decode cX7_init 18 = .ok (.putfield 13, 3) := by decide +kernel
theorem dX7_init_21 : decode cX7_init 21 = .ok (.aload_n 0, 1) := by decide +kernel
theorem dX7_init_22 : decode cX7_init 22 = .ok (.bipush 6, 2) := by decide +kernel
theorem dX7_init_24 : decode cX7_init 24 = .ok (.newarray .long, 2) := by decide +kernel
theorem dX7_init_26 : decode cX7_init 26 = .ok (.putfield 17, 3) := by decide +kernel
theorem dX7_init_29 : decode cX7_init 29 = .ok (.aload_n 0, 1) := by decide +kernel
theorem dX7_init_30 : decode cX7_init 30 = .ok (.bipush 10, 2) := by decide +kernel
theorem dX7_init_32 : decode cX7_init 32 = .ok (.newarray .long, 2) := by decide +kernel
theorem dX7_init_34 : decode cX7_init 34 = .ok (.putfield 21, 3) := by decide +kernel
theorem dX7_init_37 : decode cX7_init 37 = .ok (.aload_n 0, 1) := by decide +kernel
theorem dX7_init_38 : decode cX7_init 38 = .ok (.sipush 4096, 3) := by decide +kernel
theorem dX7_init_41 : decode cX7_init 41 = .ok (.newarray .boolean, 2) := by decide +kernel
theorem dX7_init_43 : decode cX7_init 43 = .ok (.putfield 24, 3) := by decide +kernel
theorem dX7_init_46 : decode cX7_init 46 = .ok (.aload_n 0, 1) := by decide +kernel
theorem dX7_init_47 : decode cX7_init 47 = .ok (.sipush 729, 3) := by decide +kernel
theorem dX7_init_50 : decode cX7_init 50 = .ok (.newarray .int, 2) := by decide +kernel
theorem dX7_init_52 : decode cX7_init 52 = .ok (.putfield 28, 3) := by decide +kernel
theorem dX7_init_55 : decode cX7_init 55 = .ok (.iconst 0, 1) := by decide +kernel
theorem dX7_init_56 : decode cX7_init 56 = .ok (.istore_n 1, 1) := by decide +kernel
theorem dX7_init_57 : decode cX7_init 57 = .ok (.iload_n 1, 1) := by decide +kernel
theorem dX7_init_58 : decode cX7_init 58 = .ok (.bipush 64, 2) := by decide +kernel
theorem dX7_init_60 : decode cX7_init 60 = .ok (.if_icmp .ge 48, 3) := by decide +kernel
theorem dX7_init_63 : decode cX7_init 63 = .ok (.iconst 0, 1) := by decide +kernel
theorem dX7_init_64 : decode cX7_init 64 = .ok (.istore_n 2, 1) := by decide +kernel
theorem dX7_init_65 : decode cX7_init 65 = .ok (.iload_n 2, 1) := by decide +kernel
theorem dX7_init_66 : decode cX7_init 66 = .ok (.bipush 6, 2) := by decide +kernel
theorem dX7_init_68 : decode cX7_init 68 = .ok (.if_icmp .ge 34, 3) := by decide +kernel
theorem dX7_init_71 : decode cX7_init 71 = .ok (.aload_n 0, 1) := by decide +kernel
theorem dX7_init_72 : decode cX7_init 72 = .ok (.getfield 17, 3) := by decide +kernel
theorem dX7_init_75 : decode cX7_init 75 = .ok (.iload_n 2, 1) := by decide +kernel
theorem dX7_init_76 : decode cX7_init 76 = .ok (.dup2, 1) := by decide +kernel
theorem dX7_init_77 : decode cX7_init 77 = .ok (.laload, 1) := by decide +kernel
theorem dX7_init_78 : decode cX7_init 78 = .ok (.iload_n 1, 1) := by decide +kernel
theorem dX7_init_79 : decode cX7_init 79 = .ok (.iload_n 2, 1) := by decide +kernel
theorem dX7_init_80 : decode cX7_init 80 = .ok (.ishr, 1) := by decide +kernel
theorem dX7_init_81 : decode cX7_init 81 = .ok (.iconst 1, 1) := by decide +kernel
theorem dX7_init_82 : decode cX7_init 82 = .ok (.iand, 1) := by decide +kernel
theorem dX7_init_83 : decode cX7_init 83 = .ok (.iconst 1, 1) := by decide +kernel
theorem dX7_init_84 : decode cX7_init 84 = .ok (.if_icmp .ne 9, 3) := by decide +kernel
theorem dX7_init_87 : decode cX7_init 87 = .ok (.lconst 1, 1) := by decide +kernel
theorem dX7_init_88 : decode cX7_init 88 = .ok (.iload_n 1, 1) := by decide +kernel
theorem dX7_init_89 : decode cX7_init 89 = .ok (.lshl, 1) := by decide +kernel
theorem dX7_init_90 : decode cX7_init 90 = .ok (.goto 4, 3) := by decide +kernel
theorem dX7_init_93 : decode cX7_init 93 = .ok (.lconst 0, 1) := by decide +kernel
theorem dX7_init_94 : decode cX7_init 94 = .ok (.lor, 1) := by decide +kernel
theorem dX7_init_95 : decode cX7_init 95 = .ok (.lastore, 1) := by decide +kernel
theorem dX7_init_96 : decode cX7_init 96 = .ok (.iinc 2 1, 3) := by decide +kernel
theorem dX7_init_99 : decode cX7_init 99 = .ok (.goto (-34), 3) := by decide +kernel
theorem dX7_init_102 : decode cX7_init 102 = .ok (.iinc 1 1, 3) := by decide +kernel
theorem dX7_init_105 : decode cX7_init 105 = .ok (.goto (-48), 3) := by decide +kernel
theorem dX7_init_108 : decode cX7_init 108 = .ok (.return_, 1) := by decide +kernel
theorem dX7_thrown_0 : decode cX7_thrown 0 = .ok (.aload_n 0, 1) := by decide +kernel
theorem dX7_thrown_1 : decode cX7_thrown 1 = .ok (.getfield 31, 3) := by decide +kernel
theorem dX7_thrown_4 : decode cX7_thrown 4 = .ok (.ireturn, 1) := by decide +kernel
theorem dX7_in_0 : decode cX7_in 0 = .ok (.iload_n 0, 1) := by decide +kernel
theorem dX7_in_1 : decode cX7_in 1 = .ok (.iload_n 1, 1) := by decide +kernel
theorem dX7_in_2 : decode cX7_in 2 = .ok (.if_icmp .lt 12, 3) := by decide +kernel
theorem dX7_in_5 : decode cX7_in 5 = .ok (.iload_n 0, 1) := by decide +kernel
theorem dX7_in_6 : decode cX7_in 6 = .ok (.iload_n 2, 1) := by decide +kernel
theorem dX7_in_7 : decode cX7_in 7 = .ok (.if_icmp .gt 7, 3) := by decide +kernel
theorem dX7_in_10 : decode cX7_in 10 = .ok (.iconst 1, 1) := by decide +kernel
theorem dX7_in_11 : decode cX7_in 11 = .ok (.goto 4, 3) := by decide +kernel
theorem dX7_in_14 : decode cX7_in 14 = .ok (.iconst 0, 1) := by decide +kernel
theorem dX7_in_15 : decode cX7_in 15 = .ok (.ireturn, 1) := by decide +kernel
theorem dX7_goes_0 : decode cX7_goes 0 = .ok (.aload_n 0, 1) := by decide +kernel
theorem dX7_goes_1 : decode cX7_goes 1 = .ok (.iload_n 1, 1) := by decide +kernel
theorem dX7_goes_2 : decode cX7_goes 2 = .ok (.ifCond .ne 7, 3) := by decide +kernel
theorem dX7_goes_5 : decode cX7_goes 5 = .ok (.iconst 1, 1) := by decide +kernel
theorem dX7_goes_6 : decode cX7_goes 6 = .ok (.goto 20, 3) := by decide +kernel
theorem dX7_goes_9 : decode cX7_goes 9 = .ok (.iload_n 2, 1) := by decide +kernel
theorem dX7_goes_10 : decode cX7_goes 10 = .ok (.ifCond .ne 7, 3) := by decide +kernel
theorem dX7_goes_13 : decode cX7_goes 13 = .ok (.iconst 2, 1) := by decide +kernel
theorem dX7_goes_14 : decode cX7_goes 14 = .ok (.goto 12, 3) := by decide +kernel
theorem dX7_goes_17 : decode cX7_goes 17 = .ok (.iload_n 3, 1) := by decide +kernel
theorem dX7_goes_18 : decode cX7_goes 18 = .ok (.ifCond .ne 7, 3) := by decide +kernel
theorem dX7_goes_21 : decode cX7_goes 21 = .ok (.iconst 3, 1) := by decide +kernel
theorem dX7_goes_22 : decode cX7_goes 22 = .ok (.goto 4, 3) := by decide +kernel
theorem dX7_goes_25 : decode cX7_goes 25 = .ok (.iconst 0, 1) := by decide +kernel
theorem dX7_goes_26 : decode cX7_goes 26 = .ok (.putfield 31, 3) := by decide +kernel
theorem dX7_goes_29 : decode cX7_goes 29 = .ok (.aload_n 0, 1) := by decide +kernel
theorem dX7_goes_30 : decode cX7_goes 30 = .ok (.getfield 31, 3) := by decide +kernel
theorem dX7_goes_33 : decode cX7_goes 33 = .ok (.ifCond .ne 7, 3) := by decide +kernel
theorem dX7_goes_36 : decode cX7_goes 36 = .ok (.iconst 1, 1) := by decide +kernel
theorem dX7_goes_37 : decode cX7_goes 37 = .ok (.goto 4, 3) := by decide +kernel
theorem dX7_goes_40 : decode cX7_goes 40 = .ok (.iconst 0, 1) := by decide +kernel
theorem dX7_goes_41 : decode cX7_goes 41 = .ok (.ireturn, 1) := by decide +kernel
theorem dX7_isIn_0 : decode cX7_isIn 0 = .ok (.iload_n 0, 1) := by decide +kernel
theorem dX7_isIn_1 : decode cX7_isIn 1 = .ok (.iload_n 1, 1) := by decide +kernel
theorem dX7_isIn_2 : decode cX7_isIn 2 = .ok (.ishr, 1) := by decide +kernel
theorem dX7_isIn_3 : decode cX7_isIn 3 = .ok (.iconst 1, 1) := by decide +kernel
theorem dX7_isIn_4 : decode cX7_isIn 4 = .ok (.iand, 1) := by decide +kernel
theorem dX7_isIn_5 : decode cX7_isIn 5 = .ok (.iconst 1, 1) := by decide +kernel
theorem dX7_isIn_6 : decode cX7_isIn 6 = .ok (.if_icmp .ne 7, 3) := by decide +kernel
theorem dX7_isIn_9 : decode cX7_isIn 9 = .ok (.iconst 1, 1) := by decide +kernel
theorem dX7_isIn_10 : decode cX7_isIn 10 = .ok (.goto 4, 3) := by decide +kernel
theorem dX7_isIn_13 : decode cX7_isIn 13 = .ok (.iconst 0, 1) := by decide +kernel
theorem dX7_isIn_14 : decode cX7_isIn 14 = .ok (.ireturn, 1) := by decide +kernel
theorem dX7_count_0 : decode cX7_count 0 = .ok (.iconst 0, 1) := by decide +kernel
theorem dX7_count_1 : decode cX7_count 1 = .ok (.istore_n 1, 1) := by decide +kernel
theorem dX7_count_2 : decode cX7_count 2 = .ok (.iload_n 0, 1) := by decide +kernel
theorem dX7_count_3 : decode cX7_count 3 = .ok (.istore_n 2, 1) := by decide +kernel
theorem dX7_count_4 : decode cX7_count 4 = .ok (.iload_n 2, 1) := by decide +kernel
theorem dX7_count_5 : decode cX7_count 5 = .ok (.ifCond .le 16, 3) := by decide +kernel
theorem dX7_count_8 : decode cX7_count 8 = .ok (.iload_n 1, 1) := by decide +kernel
theorem dX7_count_9 : decode cX7_count 9 = .ok (.iload_n 2, 1) := by decide +kernel
theorem dX7_count_10 : decode cX7_count 10 = .ok (.iconst 1, 1) := by decide +kernel
theorem dX7_count_11 : decode cX7_count 11 = .ok (.iand, 1) := by decide +kernel
theorem dX7_count_12 : decode cX7_count 12 = .ok (.iadd, 1) := by decide +kernel
theorem dX7_count_13 : decode cX7_count 13 = .ok (.istore_n 1, 1) := by decide +kernel
theorem dX7_count_14 : decode cX7_count 14 = .ok (.iload_n 2, 1) := by decide +kernel
theorem dX7_count_15 : decode cX7_count 15 = .ok (.iconst 1, 1) := by decide +kernel
theorem dX7_count_16 : decode cX7_count 16 = .ok (.ishr, 1) := by decide +kernel
theorem dX7_count_17 : decode cX7_count 17 = .ok (.istore_n 2, 1) := by decide +kernel
theorem dX7_count_18 : decode cX7_count 18 = .ok (.goto (-14), 3) := by decide +kernel
theorem dX7_count_21 : decode cX7_count 21 = .ok (.iload_n 1, 1) := by decide +kernel
theorem dX7_count_22 : decode cX7_count 22 = .ok (.ireturn, 1) := by decide +kernel
theorem dX7_countWays_0 : decode cX7_countWays 0 = .ok (.iconst 0, 1) := by decide +kernel
theorem dX7_countWays_1 : decode cX7_countWays 1 = .ok (.istore_n 2, 1) := by decide +kernel
theorem dX7_countWays_2 : decode cX7_countWays 2 = .ok (.iconst 0, 1) := by decide +kernel
theorem dX7_countWays_3 : decode cX7_countWays 3 = .ok (.istore_n 3, 1) := by decide +kernel
theorem dX7_countWays_4 : decode cX7_countWays 4 = .ok (.iload_n 3, 1) := by decide +kernel
theorem dX7_countWays_5 : decode cX7_countWays 5 = .ok (.bipush 64, 2) := by decide +kernel
theorem dX7_countWays_7 : decode cX7_countWays 7 = .ok (.if_icmp .ge 27, 3) := by decide +kernel
theorem dX7_countWays_10 : decode cX7_countWays 10 = .ok (.iload_n 2, 1) := by decide +kernel
theorem dX7_countWays_11 : decode cX7_countWays 11 = .ok (.lload_n 0, 1) := by decide +kernel
theorem dX7_countWays_12 : decode cX7_countWays 12 = .ok (.iload_n 3, 1) := by decide +kernel
theorem dX7_countWays_13 : decode cX7_countWays 13 = .ok (.lushr, 1) := by decide +kernel
theorem dX7_countWays_14 : decode cX7_countWays 14 = .ok (.lconst 1, 1) := by decide +kernel
theorem dX7_countWays_15 : decode cX7_countWays 15 = .ok (.land, 1) := by decide +kernel
theorem dX7_countWays_16 : decode cX7_countWays 16 = .ok (.lconst 1, 1) := by decide +kernel
theorem dX7_countWays_17 : decode cX7_countWays 17 = .ok (.lcmp, 1) := by decide +kernel
theorem dX7_countWays_18 : decode cX7_countWays 18 = .ok (.ifCond .ne 7, 3) := by decide +kernel
theorem dX7_countWays_21 : decode cX7_countWays 21 = .ok (.iconst 1, 1) := by decide +kernel
theorem dX7_countWays_22 : decode cX7_countWays 22 = .ok (.goto 4, 3) := by decide +kernel
theorem dX7_countWays_25 : decode cX7_countWays 25 = .ok (.iconst 0, 1) := by decide +kernel
theorem dX7_countWays_26 : decode cX7_countWays 26 = .ok (.iadd, 1) := by decide +kernel
theorem dX7_countWays_27 : decode cX7_countWays 27 = .ok (.istore_n 2, 1) := by decide +kernel
theorem dX7_countWays_28 : decode cX7_countWays 28 = .ok (.iinc 3 1, 3) := by decide +kernel
theorem dX7_countWays_31 : decode cX7_countWays 31 = .ok (.goto (-27), 3) := by decide +kernel
theorem dX7_countWays_34 : decode cX7_countWays 34 = .ok (.iload_n 2, 1) := by decide +kernel
theorem dX7_countWays_35 : decode cX7_countWays 35 = .ok (.ireturn, 1) := by decide +kernel
theorem dX7_copies_0 : decode cX7_copies 0 = .ok (.iconst 0, 1) := by decide +kernel
theorem dX7_copies_1 : decode cX7_copies 1 = .ok (.istore_n 3, 1) := by decide +kernel
theorem dX7_copies_2 : decode cX7_copies 2 = .ok (.iload_n 3, 1) := by decide +kernel
theorem dX7_copies_3 : decode cX7_copies 3 = .ok (.bipush 65, 2) := by decide +kernel
theorem dX7_copies_5 : decode cX7_copies 5 = .ok (.if_icmp .ge 31, 3) := by decide +kernel
theorem dX7_copies_8 : decode cX7_copies 8 = .ok (.aload_n 0, 1) := by decide +kernel
theorem dX7_copies_9 : decode cX7_copies 9 = .ok (.getfield 7, 3) := by decide +kernel
theorem dX7_copies_12 : decode cX7_copies 12 = .ok (.bipush 65, 2) := by decide +kernel
theorem dX7_copies_14 : decode cX7_copies 14 = .ok (.iload_n 2, 1) := by decide +kernel
theorem dX7_copies_15 : decode cX7_copies 15 = .ok (.imul, 1) := by decide +kernel
theorem dX7_copies_16 : decode cX7_copies 16 = .ok (.iload_n 3, 1) := by decide +kernel
theorem dX7_copies_17 : decode cX7_copies 17 = .ok (.iadd, 1) := by decide +kernel
theorem dX7_copies_18 : decode cX7_copies 18 = .ok (.aload_n 0, 1) := by decide +kernel
theorem dX7_copies_19 : decode cX7_copies 19 = .ok (.getfield 7, 3) := by decide +kernel
theorem dX7_copies_22 : decode cX7_copies 22 = .ok (.bipush 65, 2) := by decide +kernel
theorem dX7_copies_24 : decode cX7_copies 24 = .ok (.iload_n 1, 1) := by decide +kernel
theorem dX7_copies_25 : decode cX7_copies 25 = .ok (.imul, 1) := by decide +kernel
theorem dX7_copies_26 : decode cX7_copies 26 = .ok (.iload_n 3, 1) := by decide +kernel
theorem dX7_copies_27 : decode cX7_copies 27 = .ok (.iadd, 1) := by decide +kernel
theorem dX7_copies_28 : decode cX7_copies 28 = .ok (.iaload, 1) := by decide +kernel
theorem dX7_copies_29 : decode cX7_copies 29 = .ok (.iastore, 1) := by decide +kernel
theorem dX7_copies_30 : decode cX7_copies 30 = .ok (.iinc 3 1, 3) := by decide +kernel
theorem dX7_copies_33 : decode cX7_copies 33 = .ok (.goto (-31), 3) := by decide +kernel
theorem dX7_copies_36 : decode cX7_copies 36 = .ok (.return_, 1) := by decide +kernel
theorem dX7_saves_0 : decode cX7_saves 0 = .ok (.aload_n 0, 1) := by decide +kernel
theorem dX7_saves_1 : decode cX7_saves 1 = .ok (.getfield 35, 3) := by decide +kernel
theorem dX7_saves_4 : decode cX7_saves 4 = .ok (.bipush 6, 2) := by decide +kernel
theorem dX7_saves_6 : decode cX7_saves 6 = .ok (.if_icmp .ne 35, 3) := by decide +kernel
theorem dX7_saves_9 : decode cX7_saves 9 = .ok (.iconst 1, 1) := by decide +kernel
theorem dX7_saves_10 : decode cX7_saves 10 = .ok (.istore_n 1, 1) := by decide +kernel
theorem dX7_saves_11 : decode cX7_saves 11 = .ok (.iload_n 1, 1) := by decide +kernel
theorem dX7_saves_12 : decode cX7_saves 12 = .ok (.bipush 6, 2) := by decide +kernel
theorem dX7_saves_14 : decode cX7_saves 14 = .ok (.if_icmp .ge 17, 3) := by decide +kernel
theorem dX7_saves_17 : decode cX7_saves 17 = .ok (.aload_n 0, 1) := by decide +kernel
theorem dX7_saves_18 : decode cX7_saves 18 = .ok (.iload_n 1, 1) := by decide +kernel
theorem dX7_saves_19 : decode cX7_saves 19 = .ok (.iconst 1, 1) := by decide +kernel
theorem dX7_saves_20 : decode cX7_saves 20 = .ok (.iadd, 1) := by decide +kernel
theorem dX7_saves_21 : decode cX7_saves 21 = .ok (.iload_n 1, 1) := by decide +kernel
theorem dX7_saves_22 : decode cX7_saves 22 = .ok (.invokevirtual 38, 3) := by decide +kernel
theorem dX7_saves_25 : decode cX7_saves 25 = .ok (.iinc 1 1, 3) := by decide +kernel
theorem dX7_saves_28 : decode cX7_saves 28 = .ok (.goto (-17), 3) := by decide +kernel
theorem dX7_saves_31 : decode cX7_saves 31 = .ok (.aload_n 0, 1) := by decide +kernel
theorem dX7_saves_32 : decode cX7_saves 32 = .ok (.dup, 1) := by decide +kernel
theorem dX7_saves_33 : decode cX7_saves 33 = .ok (.getfield 35, 3) := by decide +kernel
theorem dX7_saves_36 : decode cX7_saves 36 = .ok (.iconst 1, 1) := by decide +kernel
theorem dX7_saves_37 : decode cX7_saves 37 = .ok (.isub, 1) := by decide +kernel
theorem dX7_saves_38 : decode cX7_saves 38 = .ok (.putfield 35, 3) := by decide +kernel
theorem dX7_saves_41 : decode cX7_saves 41 = .ok (.aload_n 0, 1) := by decide +kernel
theorem dX7_saves_42 : decode cX7_saves 42 = .ok (.dup, 1) := by decide +kernel
theorem dX7_saves_43 : decode cX7_saves 43 = .ok (.getfield 35, 3) := by decide +kernel
theorem dX7_saves_46 : decode cX7_saves 46 = .ok (.iconst 1, 1) := by decide +kernel
theorem dX7_saves_47 : decode cX7_saves 47 = .ok (.iadd, 1) := by decide +kernel
theorem dX7_saves_48 : decode cX7_saves 48 = .ok (.putfield 35, 3) := by decide +kernel
theorem dX7_saves_51 : decode cX7_saves 51 = .ok (.aload_n 0, 1) := by decide +kernel
theorem dX7_saves_52 : decode cX7_saves 52 = .ok (.iconst 0, 1) := by decide +kernel
theorem dX7_saves_53 : decode cX7_saves 53 = .ok (.aload_n 0, 1) := by decide +kernel
theorem dX7_saves_54 : decode cX7_saves 54 = .ok (.getfield 35, 3) := by decide +kernel
theorem dX7_saves_57 : decode cX7_saves 57 = .ok (.invokevirtual 38, 3) := by decide +kernel
theorem dX7_saves_60 : decode cX7_saves 60 = .ok (.return_, 1) := by decide +kernel
theorem dX7_isRule_0 : decode cX7_isRule 0 = .ok (.iload_n 1, 1) := by decide +kernel
theorem dX7_isRule_1 : decode cX7_isRule 1 = .ok (.iconst 0, 1) := by decide +kernel
theorem dX7_isRule_2 : decode cX7_isRule 2 = .ok (.aload_n 0, 1) := by decide +kernel
theorem dX7_isRule_3 : decode cX7_isRule 3 = .ok (.getfield 7, 3) := by decide +kernel
theorem dX7_isRule_6 : decode cX7_isRule 6 = .ok (.iconst 0, 1) := by decide +kernel
theorem dX7_isRule_7 : decode cX7_isRule 7 = .ok (.iaload, 1) := by decide +kernel
theorem dX7_isRule_8 : decode cX7_isRule 8 = .ok (.iconst 1, 1) := by decide +kernel
theorem dX7_isRule_9 : decode cX7_isRule 9 = .ok (.isub, 1) := by decide +kernel
theorem dX7_isRule_10 : decode cX7_isRule 10 = .ok (.invokestatic 42, 3) := by decide +kernel
theorem dX7_isRule_13 : decode cX7_isRule 13 = .ok (.ireturn, 1) := by decide +kernel
theorem dX7_at_0 : decode cX7_at 0 = .ok (.iconst 5, 1) := by decide +kernel
theorem dX7_at_1 : decode cX7_at 1 = .ok (.bipush 6, 2) := by decide +kernel
theorem dX7_at_3 : decode cX7_at 3 = .ok (.iload_n 0, 1) := by decide +kernel
theorem dX7_at_4 : decode cX7_at 4 = .ok (.imul, 1) := by decide +kernel
theorem dX7_at_5 : decode cX7_at 5 = .ok (.iadd, 1) := by decide +kernel
theorem dX7_at_6 : decode cX7_at 6 = .ok (.ireturn, 1) := by decide +kernel
theorem dX7_waysOf_0 : decode cX7_waysOf 0 = .ok (.lconst 0, 1) := by decide +kernel
theorem dX7_waysOf_1 : decode cX7_waysOf 1 = .ok (.lstore_n 3, 1) := by decide +kernel
theorem dX7_waysOf_2 : decode cX7_waysOf 2 = .ok (.iconst 0, 1) := by decide +kernel
theorem dX7_waysOf_3 : decode cX7_waysOf 3 = .ok (.istore 5, 2) := by decide +kernel
theorem dX7_waysOf_5 : decode cX7_waysOf 5 = .ok (.iload 5, 2) := by decide +kernel
theorem dX7_waysOf_7 : decode cX7_waysOf 7 = .ok (.bipush 6, 2) := by decide +kernel
theorem dX7_waysOf_9 : decode cX7_waysOf 9 = .ok (.if_icmp .ge 59, 3) := by decide +kernel
theorem dX7_waysOf_12 : decode cX7_waysOf 12 = .ok (.lload_n 3, 1) := by decide +kernel
theorem dX7_waysOf_13 : decode cX7_waysOf 13 = .ok (.iload_n 1, 1) := by decide +kernel
theorem dX7_waysOf_14 : decode cX7_waysOf 14 = .ok (.iload 5, 2) := by decide +kernel
theorem dX7_waysOf_16 : decode cX7_waysOf 16 = .ok (.invokestatic 46, 3) := by decide +kernel
theorem dX7_waysOf_19 : decode cX7_waysOf 19 = .ok (.ifCond .eq 13, 3) := by decide +kernel
theorem dX7_waysOf_22 : decode cX7_waysOf 22 = .ok (.aload_n 0, 1) := by decide +kernel
theorem dX7_waysOf_23 : decode cX7_waysOf 23 = .ok (.getfield 17, 3) := by decide +kernel
theorem dX7_waysOf_26 : decode cX7_waysOf 26 = .ok (.iload 5, 2) := by decide +kernel
theorem dX7_waysOf_28 : decode cX7_waysOf 28 = .ok (.laload, 1) := by decide +kernel
theorem dX7_waysOf_29 : decode cX7_waysOf 29 = .ok (.goto 4, 3) := by decide +kernel
theorem dX7_waysOf_32 : decode cX7_waysOf 32 = .ok (.lconst 0, 1) := by decide +kernel
theorem dX7_waysOf_33 : decode cX7_waysOf 33 = .ok (.lor, 1) := by decide +kernel
theorem dX7_waysOf_34 : decode cX7_waysOf 34 = .ok (.lstore_n 3, 1) := by decide +kernel
theorem dX7_waysOf_35 : decode cX7_waysOf 35 = .ok (.lload_n 3, 1) := by decide +kernel
theorem dX7_waysOf_36 : decode cX7_waysOf 36 = .ok (.iload_n 2, 1) := by decide +kernel
theorem dX7_waysOf_37 : decode cX7_waysOf 37 = .ok (.iload 5, 2) := by decide +kernel
theorem dX7_waysOf_39 : decode cX7_waysOf 39 = .ok (.invokestatic 46, 3) := by decide +kernel
theorem dX7_waysOf_42 : decode cX7_waysOf 42 = .ok (.ifCond .eq 17, 3) := by decide +kernel
theorem dX7_waysOf_45 : decode cX7_waysOf 45 = .ok (.aload_n 0, 1) := by decide +kernel
theorem dX7_waysOf_46 : decode cX7_waysOf 46 = .ok (.getfield 17, 3) := by decide +kernel
theorem dX7_waysOf_49 : decode cX7_waysOf 49 = .ok (.iload 5, 2) := by decide +kernel
theorem dX7_waysOf_51 : decode cX7_waysOf 51 = .ok (.laload, 1) := by decide +kernel
theorem dX7_waysOf_52 : decode cX7_waysOf 52 = .ok (.ldc2_w 50, 3) := by decide +kernel
theorem dX7_waysOf_55 : decode cX7_waysOf 55 = .ok (.lxor, 1) := by decide +kernel
theorem dX7_waysOf_56 : decode cX7_waysOf 56 = .ok (.goto 4, 3) := by decide +kernel
theorem dX7_waysOf_59 : decode cX7_waysOf 59 = .ok (.lconst 0, 1) := by decide +kernel
theorem dX7_waysOf_60 : decode cX7_waysOf 60 = .ok (.lor, 1) := by decide +kernel
theorem dX7_waysOf_61 : decode cX7_waysOf 61 = .ok (.lstore_n 3, 1) := by decide +kernel
theorem dX7_waysOf_62 : decode cX7_waysOf 62 = .ok (.iinc 5 1, 3) := by decide +kernel
theorem dX7_waysOf_65 : decode cX7_waysOf 65 = .ok (.goto (-60), 3) := by decide +kernel
theorem dX7_waysOf_68 : decode cX7_waysOf 68 = .ok (.lload_n 3, 1) := by decide +kernel
theorem dX7_waysOf_69 : decode cX7_waysOf 69 = .ok (.lreturn, 1) := by decide +kernel
theorem dX7_looks_0 : decode cX7_looks 0 = .ok (.iconst 0, 1) := by decide +kernel
theorem dX7_looks_1 : decode cX7_looks 1 = .ok (.istore_n 1, 1) := by decide +kernel
theorem dX7_looks_2 : decode cX7_looks 2 = .ok (.iload_n 1, 1) := by decide +kernel
theorem dX7_looks_3 : decode cX7_looks 3 = .ok (.aload_n 0, 1) := by decide +kernel
theorem dX7_looks_4 : decode cX7_looks 4 = .ok (.getfield 7, 3) := by decide +kernel
theorem dX7_looks_7 : decode cX7_looks 7 = .ok (.iconst 0, 1) := by decide +kernel
theorem dX7_looks_8 : decode cX7_looks 8 = .ok (.iaload, 1) := by decide +kernel
theorem dX7_looks_9 : decode cX7_looks 9 = .ok (.if_icmp .ge 39, 3) := by decide +kernel
theorem dX7_looks_12 : decode cX7_looks 12 = .ok (.aload_n 0, 1) := by decide +kernel
theorem dX7_looks_13 : decode cX7_looks 13 = .ok (.getfield 21, 3) := by decide +kernel
theorem dX7_looks_16 : decode cX7_looks 16 = .ok (.iload_n 1, 1) := by decide +kernel
theorem dX7_looks_17 : decode cX7_looks 17 = .ok (.aload_n 0, 1) := by decide +kernel
theorem dX7_looks_18 : decode cX7_looks 18 = .ok (.aload_n 0, 1) := by decide +kernel
theorem dX7_looks_19 : decode cX7_looks 19 = .ok (.getfield 7, 3) := by decide +kernel
theorem dX7_looks_22 : decode cX7_looks 22 = .ok (.iload_n 1, 1) := by decide +kernel
theorem dX7_looks_23 : decode cX7_looks 23 = .ok (.invokestatic 52, 3) := by decide +kernel
theorem dX7_looks_26 : decode cX7_looks 26 = .ok (.iaload, 1) := by decide +kernel
theorem dX7_looks_27 : decode cX7_looks 27 = .ok (.aload_n 0, 1) := by decide +kernel
theorem dX7_looks_28 : decode cX7_looks 28 = .ok (.getfield 7, 3) := by decide +kernel
theorem dX7_looks_31 : decode cX7_looks 31 = .ok (.iload_n 1, 1) := by decide +kernel
theorem dX7_looks_32 : decode cX7_looks 32 = .ok (.invokestatic 52, 3) := by decide +kernel
theorem dX7_looks_35 : decode cX7_looks 35 = .ok (.iconst 1, 1) := by decide +kernel
theorem dX7_looks_36 : decode cX7_looks 36 = .ok (.iadd, 1) := by decide +kernel
theorem dX7_looks_37 : decode cX7_looks 37 = .ok (.iaload, 1) := by decide +kernel
theorem dX7_looks_38 : decode cX7_looks 38 = .ok (.invokevirtual 56, 3) := by decide +kernel
theorem dX7_looks_41 : decode cX7_looks 41 = .ok (.lastore, 1) := by decide +kernel
theorem dX7_looks_42 : decode cX7_looks 42 = .ok (.iinc 1 1, 3) := by decide +kernel
theorem dX7_looks_45 : decode cX7_looks 45 = .ok (.goto (-43), 3) := by decide +kernel
theorem dX7_looks_48 : decode cX7_looks 48 = .ok (.return_, 1) := by decide +kernel
theorem dX7_waysOfAll_0 : decode cX7_waysOfAll 0 = .ok (.ldc2_w 50, 3) := by decide +kernel
theorem dX7_waysOfAll_3 : decode cX7_waysOfAll 3 = .ok (.lstore_n 2, 1) := by decide +kernel
theorem dX7_waysOfAll_4 : decode cX7_waysOfAll 4 = .ok (.iconst 0, 1) := by decide +kernel
theorem dX7_waysOfAll_5 : decode cX7_waysOfAll 5 = .ok (.istore 4, 2) := by decide +kernel
theorem dX7_waysOfAll_7 : decode cX7_waysOfAll 7 = .ok (.iload 4, 2) := by decide +kernel
theorem dX7_waysOfAll_9 : decode cX7_waysOfAll 9 = .ok (.aload_n 0, 1) := by decide +kernel
theorem dX7_waysOfAll_10 : decode cX7_waysOfAll 10 = .ok (.getfield 7, 3) := by decide +kernel
theorem dX7_waysOfAll_13 : decode cX7_waysOfAll 13 = .ok (.iconst 0, 1) := by decide +kernel
theorem dX7_waysOfAll_14 : decode cX7_waysOfAll 14 = .ok (.iaload, 1) := by decide +kernel
theorem dX7_waysOfAll_15 : decode cX7_waysOfAll 15 = .ok (.if_icmp .ge 34, 3) := by decide +kernel
theorem dX7_waysOfAll_18 : decode cX7_waysOfAll 18 = .ok (.lload_n 2, 1) := by decide +kernel
theorem dX7_waysOfAll_19 : decode cX7_waysOfAll 19 = .ok (.iload_n 1, 1) := by decide +kernel
theorem dX7_waysOfAll_20 : decode cX7_waysOfAll 20 = .ok (.iload 4, 2) := by decide +kernel
theorem dX7_waysOfAll_22 : decode cX7_waysOfAll 22 = .ok (.invokestatic 46, 3) := by decide +kernel
theorem dX7_waysOfAll_25 : decode cX7_waysOfAll 25 = .ok (.ifCond .eq 13, 3) := by decide +kernel
theorem dX7_waysOfAll_28 : decode cX7_waysOfAll 28 = .ok (.aload_n 0, 1) := by decide +kernel
theorem dX7_waysOfAll_29 : decode cX7_waysOfAll 29 = .ok (.getfield 21, 3) := by decide +kernel
theorem dX7_waysOfAll_32 : decode cX7_waysOfAll 32 = .ok (.iload 4, 2) := by decide +kernel
theorem dX7_waysOfAll_34 : decode cX7_waysOfAll 34 = .ok (.laload, 1) := by decide +kernel
theorem dX7_waysOfAll_35 : decode cX7_waysOfAll 35 = .ok (.goto 6, 3) := by decide +kernel
theorem dX7_waysOfAll_38 : decode cX7_waysOfAll 38 = .ok (.ldc2_w 50, 3) := by decide +kernel
theorem dX7_waysOfAll_41 : decode cX7_waysOfAll 41 = .ok (.land, 1) := by decide +kernel
theorem dX7_waysOfAll_42 : decode cX7_waysOfAll 42 = .ok (.lstore_n 2, 1) := by decide +kernel
theorem dX7_waysOfAll_43 : decode cX7_waysOfAll 43 = .ok (.iinc 4 1, 3) := by decide +kernel
theorem dX7_waysOfAll_46 : decode cX7_waysOfAll 46 = .ok (.goto (-39), 3) := by decide +kernel
theorem dX7_waysOfAll_49 : decode cX7_waysOfAll 49 = .ok (.lload_n 2, 1) := by decide +kernel
theorem dX7_waysOfAll_50 : decode cX7_waysOfAll 50 = .ok (.lreturn, 1) := by decide +kernel
theorem dX7_holdsNow_0 : decode cX7_holdsNow 0 = .ok (.aload_n 0, 1) := by decide +kernel
theorem dX7_holdsNow_1 : decode cX7_holdsNow 1 = .ok (.getfield 7, 3) := by decide +kernel
theorem dX7_holdsNow_4 : decode cX7_holdsNow 4 = .ok (.iload_n 1, 1) := by decide +kernel
theorem dX7_holdsNow_5 : decode cX7_holdsNow 5 = .ok (.invokestatic 52, 3) := by decide +kernel
theorem dX7_holdsNow_8 : decode cX7_holdsNow 8 = .ok (.iaload, 1) := by decide +kernel
theorem dX7_holdsNow_9 : decode cX7_holdsNow 9 = .ok (.istore_n 3, 1) := by decide +kernel
theorem dX7_holdsNow_10 : decode cX7_holdsNow 10 = .ok (.aload_n 0, 1) := by decide +kernel
theorem dX7_holdsNow_11 : decode cX7_holdsNow 11 = .ok (.getfield 7, 3) := by decide +kernel
theorem dX7_holdsNow_14 : decode cX7_holdsNow 14 = .ok (.iload_n 1, 1) := by decide +kernel
theorem dX7_holdsNow_15 : decode cX7_holdsNow 15 = .ok (.invokestatic 52, 3) := by decide +kernel
theorem dX7_holdsNow_18 : decode cX7_holdsNow 18 = .ok (.iconst 1, 1) := by decide +kernel
theorem dX7_holdsNow_19 : decode cX7_holdsNow 19 = .ok (.iadd, 1) := by decide +kernel
theorem dX7_holdsNow_20 : decode cX7_holdsNow 20 = .ok (.iaload, 1) := by decide +kernel
theorem dX7_holdsNow_21 : decode cX7_holdsNow 21 = .ok (.istore 4, 2) := by decide +kernel
theorem dX7_holdsNow_23 : decode cX7_holdsNow 23 = .ok (.iload_n 3, 1) := by decide +kernel
theorem dX7_holdsNow_24 : decode cX7_holdsNow 24 = .ok (.iload_n 2, 1) := by decide +kernel
theorem dX7_holdsNow_25 : decode cX7_holdsNow 25 = .ok (.iand, 1) := by decide +kernel
theorem dX7_holdsNow_26 : decode cX7_holdsNow 26 = .ok (.ifCond .ne 12, 3) := by decide +kernel
theorem dX7_holdsNow_29 : decode cX7_holdsNow 29 = .ok (.iload 4, 2) := by decide +kernel
theorem dX7_holdsNow_31 : decode cX7_holdsNow 31 = .ok (.iload_n 2, 1) := by decide +kernel
theorem dX7_holdsNow_32 : decode cX7_holdsNow 32 = .ok (.iconst (-1), 1) := by decide +kernel
theorem dX7_holdsNow_33 : decode cX7_holdsNow 33 = .ok (.ixor, 1) := by decide +kernel
theorem dX7_holdsNow_34 : decode cX7_holdsNow 34 = .ok (.iand, 1) := by decide +kernel
theorem dX7_holdsNow_35 : decode cX7_holdsNow 35 = .ok (.ifCond .eq 7, 3) := by decide +kernel
theorem dX7_holdsNow_38 : decode cX7_holdsNow 38 = .ok (.iconst 1, 1) := by decide +kernel
theorem dX7_holdsNow_39 : decode cX7_holdsNow 39 = .ok (.goto 4, 3) := by decide +kernel
theorem dX7_holdsNow_42 : decode cX7_holdsNow 42 = .ok (.iconst 0, 1) := by decide +kernel
theorem dX7_holdsNow_43 : decode cX7_holdsNow 43 = .ok (.ireturn, 1) := by decide +kernel
theorem dX7_isForce_0 : decode cX7_isForce 0 = .ok (.iload_n 2, 1) := by decide +kernel
theorem dX7_isForce_1 : decode cX7_isForce 1 = .ok (.aload_n 0, 1) := by decide +kernel
theorem dX7_isForce_2 : decode cX7_isForce 2 = .ok (.getfield 7, 3) := by decide +kernel
theorem dX7_isForce_5 : decode cX7_isForce 5 = .ok (.iload_n 1, 1) := by decide +kernel
theorem dX7_isForce_6 : decode cX7_isForce 6 = .ok (.invokestatic 52, 3) := by decide +kernel
theorem dX7_isForce_9 : decode cX7_isForce 9 = .ok (.iconst 4, 1) := by decide +kernel
theorem dX7_isForce_10 : decode cX7_isForce 10 = .ok (.iadd, 1) := by decide +kernel
theorem dX7_isForce_11 : decode cX7_isForce 11 = .ok (.iaload, 1) := by decide +kernel
theorem dX7_isForce_12 : decode cX7_isForce 12 = .ok (.if_icmp .lt 7, 3) := by decide +kernel
theorem dX7_isForce_15 : decode cX7_isForce 15 = .ok (.iconst 1, 1) := by decide +kernel
theorem dX7_isForce_16 : decode cX7_isForce 16 = .ok (.goto 4, 3) := by decide +kernel
theorem dX7_isForce_19 : decode cX7_isForce 19 = .ok (.iconst 0, 1) := by decide +kernel
theorem dX7_isForce_20 : decode cX7_isForce 20 = .ok (.ireturn, 1) := by decide +kernel
theorem dX7_force_0 : decode cX7_force 0 = .ok (.iconst 0, 1) := by decide +kernel
theorem dX7_force_1 : decode cX7_force 1 = .ok (.istore_n 1, 1) := by decide +kernel
theorem dX7_force_2 : decode cX7_force 2 = .ok (.iconst 0, 1) := by decide +kernel
theorem dX7_force_3 : decode cX7_force 3 = .ok (.istore_n 2, 1) := by decide +kernel
theorem dX7_force_4 : decode cX7_force 4 = .ok (.iload_n 2, 1) := by decide +kernel
theorem dX7_force_5 : decode cX7_force 5 = .ok (.aload_n 0, 1) := by decide +kernel
theorem dX7_force_6 : decode cX7_force 6 = .ok (.getfield 7, 3) := by decide +kernel
theorem dX7_force_9 : decode cX7_force 9 = .ok (.iconst 0, 1) := by decide +kernel
theorem dX7_force_10 : decode cX7_force 10 = .ok (.iaload, 1) := by decide +kernel
theorem dX7_force_11 : decode cX7_force 11 = .ok (.if_icmp .ge 33, 3) := by decide +kernel
theorem dX7_force_14 : decode cX7_force 14 = .ok (.iload_n 1, 1) := by decide +kernel
theorem dX7_force_15 : decode cX7_force 15 = .ok (.aload_n 0, 1) := by decide +kernel
theorem dX7_force_16 : decode cX7_force 16 = .ok (.iload_n 2, 1) := by decide +kernel
theorem dX7_force_17 : decode cX7_force 17 = .ok (.aload_n 0, 1) := by decide +kernel
theorem dX7_force_18 : decode cX7_force 18 = .ok (.getfield 7, 3) := by decide +kernel
theorem dX7_force_21 : decode cX7_force 21 = .ok (.iconst 2, 1) := by decide +kernel
theorem dX7_force_22 : decode cX7_force 22 = .ok (.iaload, 1) := by decide +kernel
theorem dX7_force_23 : decode cX7_force 23 = .ok (.invokevirtual 60, 3) := by decide +kernel
theorem dX7_force_26 : decode cX7_force 26 = .ok (.ifCond .eq 9, 3) := by decide +kernel
theorem dX7_force_29 : decode cX7_force 29 = .ok (.iconst 1, 1) := by decide +kernel
theorem dX7_force_30 : decode cX7_force 30 = .ok (.iload_n 2, 1) := by decide +kernel
theorem dX7_force_31 : decode cX7_force 31 = .ok (.ishl, 1) := by decide +kernel
theorem dX7_force_32 : decode cX7_force 32 = .ok (.goto 4, 3) := by decide +kernel
theorem dX7_force_35 : decode cX7_force 35 = .ok (.iconst 0, 1) := by decide +kernel
theorem dX7_force_36 : decode cX7_force 36 = .ok (.ior, 1) := by decide +kernel
theorem dX7_force_37 : decode cX7_force 37 = .ok (.istore_n 1, 1) := by decide +kernel
theorem dX7_force_38 : decode cX7_force 38 = .ok (.iinc 2 1, 3) := by decide +kernel
theorem dX7_force_41 : decode cX7_force 41 = .ok (.goto (-37), 3) := by decide +kernel
theorem dX7_force_44 : decode cX7_force 44 = .ok (.iload_n 1, 1) := by decide +kernel
theorem dX7_force_45 : decode cX7_force 45 = .ok (.ireturn, 1) := by decide +kernel
theorem dX7_brokenIn_0 : decode cX7_brokenIn 0 = .ok (.iconst 0, 1) := by decide +kernel
theorem dX7_brokenIn_1 : decode cX7_brokenIn 1 = .ok (.istore_n 2, 1) := by decide +kernel
theorem dX7_brokenIn_2 : decode cX7_brokenIn 2 = .ok (.iconst 0, 1) := by decide +kernel
theorem dX7_brokenIn_3 : decode cX7_brokenIn 3 = .ok (.istore_n 3, 1) := by decide +kernel
theorem dX7_brokenIn_4 : decode cX7_brokenIn 4 = .ok (.iload_n 3, 1) := by decide +kernel
theorem dX7_brokenIn_5 : decode cX7_brokenIn 5 = .ok (.aload_n 0, 1) := by decide +kernel
theorem dX7_brokenIn_6 : decode cX7_brokenIn 6 = .ok (.getfield 7, 3) := by decide +kernel
theorem dX7_brokenIn_9 : decode cX7_brokenIn 9 = .ok (.iconst 0, 1) := by decide +kernel
theorem dX7_brokenIn_10 : decode cX7_brokenIn 10 = .ok (.iaload, 1) := by decide +kernel
theorem dX7_brokenIn_11 : decode cX7_brokenIn 11 = .ok (.if_icmp .ge 42, 3) := by decide +kernel
theorem dX7_brokenIn_14 : decode cX7_brokenIn 14 = .ok (.iload_n 2, 1) := by decide +kernel
theorem dX7_brokenIn_15 : decode cX7_brokenIn 15 = .ok (.aload_n 0, 1) := by decide +kernel
theorem dX7_brokenIn_16 : decode cX7_brokenIn 16 = .ok (.iload_n 3, 1) := by decide +kernel
theorem dX7_brokenIn_17 : decode cX7_brokenIn 17 = .ok (.aload_n 0, 1) := by decide +kernel
theorem dX7_brokenIn_18 : decode cX7_brokenIn 18 = .ok (.getfield 7, 3) := by decide +kernel
theorem dX7_brokenIn_21 : decode cX7_brokenIn 21 = .ok (.iconst 2, 1) := by decide +kernel
theorem dX7_brokenIn_22 : decode cX7_brokenIn 22 = .ok (.iaload, 1) := by decide +kernel
theorem dX7_brokenIn_23 : decode cX7_brokenIn 23 = .ok (.invokevirtual 60, 3) := by decide +kernel
theorem dX7_brokenIn_26 : decode cX7_brokenIn 26 = .ok (.ifCond .eq 18, 3) := by decide +kernel
theorem dX7_brokenIn_29 : decode cX7_brokenIn 29 = .ok (.aload_n 0, 1) := by decide +kernel
theorem dX7_brokenIn_30 : decode cX7_brokenIn 30 = .ok (.iload_n 3, 1) := by decide +kernel
theorem dX7_brokenIn_31 : decode cX7_brokenIn 31 = .ok (.iload_n 1, 1) := by decide +kernel
theorem dX7_brokenIn_32 : decode cX7_brokenIn 32 = .ok (.invokevirtual 63, 3) := by decide +kernel
theorem dX7_brokenIn_35 : decode cX7_brokenIn 35 = .ok (.ifCond .ne 9, 3) := by decide +kernel
theorem dX7_brokenIn_38 : decode cX7_brokenIn 38 = .ok (.iconst 1, 1) := by decide +kernel
theorem dX7_brokenIn_39 : decode cX7_brokenIn 39 = .ok (.iload_n 3, 1) := by decide +kernel
theorem dX7_brokenIn_40 : decode cX7_brokenIn 40 = .ok (.ishl, 1) := by decide +kernel
theorem dX7_brokenIn_41 : decode cX7_brokenIn 41 = .ok (.goto 4, 3) := by decide +kernel
theorem dX7_brokenIn_44 : decode cX7_brokenIn 44 = .ok (.iconst 0, 1) := by decide +kernel
theorem dX7_brokenIn_45 : decode cX7_brokenIn 45 = .ok (.ior, 1) := by decide +kernel
theorem dX7_brokenIn_46 : decode cX7_brokenIn 46 = .ok (.istore_n 2, 1) := by decide +kernel
theorem dX7_brokenIn_47 : decode cX7_brokenIn 47 = .ok (.iinc 3 1, 3) := by decide +kernel
theorem dX7_brokenIn_50 : decode cX7_brokenIn 50 = .ok (.goto (-46), 3) := by decide +kernel
theorem dX7_brokenIn_53 : decode cX7_brokenIn 53 = .ok (.iload_n 2, 1) := by decide +kernel
theorem dX7_brokenIn_54 : decode cX7_brokenIn 54 = .ok (.ireturn, 1) := by decide +kernel
theorem dX7_finesOfSet_0 : decode cX7_finesOfSet 0 = .ok (.iconst 0, 1) := by decide +kernel
theorem dX7_finesOfSet_1 : decode cX7_finesOfSet 1 = .ok (.istore_n 2, 1) := by decide +kernel
theorem dX7_finesOfSet_2 : decode cX7_finesOfSet 2 = .ok (.iconst 0, 1) := by decide +kernel
theorem dX7_finesOfSet_3 : decode cX7_finesOfSet 3 = .ok (.istore_n 3, 1) := by decide +kernel
theorem dX7_finesOfSet_4 : decode cX7_finesOfSet 4 = .ok (.iload_n 3, 1) := by decide +kernel
theorem dX7_finesOfSet_5 : decode cX7_finesOfSet 5 = .ok (.aload_n 0, 1) := by decide +kernel
theorem dX7_finesOfSet_6 : decode cX7_finesOfSet 6 = .ok (.getfield 7, 3) := by decide +kernel
theorem dX7_finesOfSet_9 : decode cX7_finesOfSet 9 = .ok (.iconst 0, 1) := by decide +kernel
theorem dX7_finesOfSet_10 : decode cX7_finesOfSet 10 = .ok (.iaload, 1) := by decide +kernel
theorem dX7_finesOfSet_11 : decode cX7_finesOfSet 11 = .ok (.if_icmp .ge 35, 3) := by decide +kernel
theorem dX7_finesOfSet_14 : decode cX7_finesOfSet 14 = .ok (.iload_n 2, 1) := by decide +kernel
theorem dX7_finesOfSet_15 : decode cX7_finesOfSet 15 = .ok (.iload_n 1, 1) := by decide +kernel
theorem dX7_finesOfSet_16 : decode cX7_finesOfSet 16 = .ok (.iload_n 3, 1) := by decide +kernel
theorem dX7_finesOfSet_17 : decode cX7_finesOfSet 17 = .ok (.invokestatic 46, 3) := by decide +kernel
theorem dX7_finesOfSet_20 : decode cX7_finesOfSet 20 = .ok (.ifCond .eq 17, 3) := by decide +kernel
theorem dX7_finesOfSet_23 : decode cX7_finesOfSet 23 = .ok (.aload_n 0, 1) := by decide +kernel
theorem dX7_finesOfSet_24 : decode cX7_finesOfSet 24 = .ok (.getfield 7, 3) := by decide +kernel
theorem dX7_finesOfSet_27 : decode cX7_finesOfSet 27 = .ok (.iload_n 3, 1) := by decide +kernel
theorem dX7_finesOfSet_28 : decode cX7_finesOfSet 28 = .ok (.invokestatic 52, 3) := by decide +kernel
theorem dX7_finesOfSet_31 : decode cX7_finesOfSet 31 = .ok (.iconst 2, 1) := by decide +kernel
theorem dX7_finesOfSet_32 : decode cX7_finesOfSet 32 = .ok (.iadd, 1) := by decide +kernel
theorem dX7_finesOfSet_33 : decode cX7_finesOfSet 33 = .ok (.iaload, 1) := by decide +kernel
theorem dX7_finesOfSet_34 : decode cX7_finesOfSet 34 = .ok (.goto 4, 3) := by decide +kernel
theorem dX7_finesOfSet_37 : decode cX7_finesOfSet 37 = .ok (.iconst 0, 1) := by decide +kernel
theorem dX7_finesOfSet_38 : decode cX7_finesOfSet 38 = .ok (.iadd, 1) := by decide +kernel
theorem dX7_finesOfSet_39 : decode cX7_finesOfSet 39 = .ok (.istore_n 2, 1) := by decide +kernel
theorem dX7_finesOfSet_40 : decode cX7_finesOfSet 40 = .ok (.iinc 3 1, 3) := by decide +kernel
theorem dX7_finesOfSet_43 : decode cX7_finesOfSet 43 = .ok (.goto (-39), 3) := by decide +kernel
theorem dX7_finesOfSet_46 : decode cX7_finesOfSet 46 = .ok (.iload_n 2, 1) := by decide +kernel
theorem dX7_finesOfSet_47 : decode cX7_finesOfSet 47 = .ok (.ireturn, 1) := by decide +kernel
theorem dX7_areMasks_0 : decode cX7_areMasks 0 = .ok (.iload_n 0, 1) := by decide +kernel
theorem dX7_areMasks_1 : decode cX7_areMasks 1 = .ok (.iconst 0, 1) := by decide +kernel
theorem dX7_areMasks_2 : decode cX7_areMasks 2 = .ok (.bipush 63, 2) := by decide +kernel
theorem dX7_areMasks_4 : decode cX7_areMasks 4 = .ok (.invokestatic 42, 3) := by decide +kernel
theorem dX7_areMasks_7 : decode cX7_areMasks 7 = .ok (.ifCond .eq 29, 3) := by decide +kernel
theorem dX7_areMasks_10 : decode cX7_areMasks 10 = .ok (.iload_n 1, 1) := by decide +kernel
theorem dX7_areMasks_11 : decode cX7_areMasks 11 = .ok (.iconst 0, 1) := by decide +kernel
theorem dX7_areMasks_12 : decode cX7_areMasks 12 = .ok (.bipush 63, 2) := by decide +kernel
theorem dX7_areMasks_14 : decode cX7_areMasks 14 = .ok (.invokestatic 42, 3) := by decide +kernel
theorem dX7_areMasks_17 : decode cX7_areMasks 17 = .ok (.ifCond .eq 19, 3) := by decide +kernel
theorem dX7_areMasks_20 : decode cX7_areMasks 20 = .ok (.iload_n 0, 1) := by decide +kernel
theorem dX7_areMasks_21 : decode cX7_areMasks 21 = .ok (.iload_n 1, 1) := by decide +kernel
theorem dX7_areMasks_22 : decode cX7_areMasks 22 = .ok (.iand, 1) := by decide +kernel
theorem dX7_areMasks_23 : decode cX7_areMasks 23 = .ok (.ifCond .ne 13, 3) := by decide +kernel
theorem dX7_areMasks_26 : decode cX7_areMasks 26 = .ok (.iload_n 0, 1) := by decide +kernel
theorem dX7_areMasks_27 : decode cX7_areMasks 27 = .ok (.iload_n 1, 1) := by decide +kernel
theorem dX7_areMasks_28 : decode cX7_areMasks 28 = .ok (.ior, 1) := by decide +kernel
theorem dX7_areMasks_29 : decode cX7_areMasks 29 = .ok (.ifCond .eq 7, 3) := by decide +kernel
theorem dX7_areMasks_32 : decode cX7_areMasks 32 = .ok (.iconst 1, 1) := by decide +kernel
theorem dX7_areMasks_33 : decode cX7_areMasks 33 = .ok (.goto 4, 3) := by decide +kernel
theorem dX7_areMasks_36 : decode cX7_areMasks 36 = .ok (.iconst 0, 1) := by decide +kernel
theorem dX7_areMasks_37 : decode cX7_areMasks 37 = .ok (.ireturn, 1) := by decide +kernel
theorem dX7_makes_0 : decode cX7_makes 0 = .ok (.aload_n 0, 1) := by decide +kernel
theorem dX7_makes_1 : decode cX7_makes 1 = .ok (.getfield 7, 3) := by decide +kernel
theorem dX7_makes_4 : decode cX7_makes 4 = .ok (.iconst 0, 1) := by decide +kernel
theorem dX7_makes_5 : decode cX7_makes 5 = .ok (.iaload, 1) := by decide +kernel
theorem dX7_makes_6 : decode cX7_makes 6 = .ok (.invokestatic 52, 3) := by decide +kernel
theorem dX7_makes_9 : decode cX7_makes 9 = .ok (.istore 4, 2) := by decide +kernel
theorem dX7_makes_11 : decode cX7_makes 11 = .ok (.aload_n 0, 1) := by decide +kernel
theorem dX7_makes_12 : decode cX7_makes 12 = .ok (.getfield 7, 3) := by decide +kernel
theorem dX7_makes_15 : decode cX7_makes 15 = .ok (.iload 4, 2) := by decide +kernel
theorem dX7_makes_17 : decode cX7_makes 17 = .ok (.iload_n 2, 1) := by decide +kernel
theorem dX7_makes_18 : decode cX7_makes 18 = .ok (.iastore, 1) := by decide +kernel
theorem dX7_makes_19 : decode cX7_makes 19 = .ok (.aload_n 0, 1) := by decide +kernel
theorem dX7_makes_20 : decode cX7_makes 20 = .ok (.getfield 7, 3) := by decide +kernel
theorem dX7_makes_23 : decode cX7_makes 23 = .ok (.iload 4, 2) := by decide +kernel
theorem dX7_makes_25 : decode cX7_makes 25 = .ok (.iconst 1, 1) := by decide +kernel
theorem dX7_makes_26 : decode cX7_makes 26 = .ok (.iadd, 1) := by decide +kernel
theorem dX7_makes_27 : decode cX7_makes 27 = .ok (.iload_n 3, 1) := by decide +kernel
theorem dX7_makes_28 : decode cX7_makes 28 = .ok (.iastore, 1) := by decide +kernel
theorem dX7_makes_29 : decode cX7_makes 29 = .ok (.aload_n 0, 1) := by decide +kernel
theorem dX7_makes_30 : decode cX7_makes 30 = .ok (.getfield 7, 3) := by decide +kernel
theorem dX7_makes_33 : decode cX7_makes 33 = .ok (.iload 4, 2) := by decide +kernel
theorem dX7_makes_35 : decode cX7_makes 35 = .ok (.iconst 2, 1) := by decide +kernel
theorem dX7_makes_36 : decode cX7_makes 36 = .ok (.iadd, 1) := by decide +kernel
theorem dX7_makes_37 : decode cX7_makes 37 = .ok (.iload_n 1, 1) := by decide +kernel
theorem dX7_makes_38 : decode cX7_makes 38 = .ok (.iastore, 1) := by decide +kernel
theorem dX7_makes_39 : decode cX7_makes 39 = .ok (.aload_n 0, 1) := by decide +kernel
theorem dX7_makes_40 : decode cX7_makes 40 = .ok (.getfield 7, 3) := by decide +kernel
theorem dX7_makes_43 : decode cX7_makes 43 = .ok (.iload 4, 2) := by decide +kernel
theorem dX7_makes_45 : decode cX7_makes 45 = .ok (.iconst 3, 1) := by decide +kernel
theorem dX7_makes_46 : decode cX7_makes 46 = .ok (.iadd, 1) := by decide +kernel
theorem dX7_makes_47 : decode cX7_makes 47 = .ok (.iconst 0, 1) := by decide +kernel
theorem dX7_makes_48 : decode cX7_makes 48 = .ok (.iastore, 1) := by decide +kernel
theorem dX7_makes_49 : decode cX7_makes 49 = .ok (.aload_n 0, 1) := by decide +kernel
theorem dX7_makes_50 : decode cX7_makes 50 = .ok (.getfield 7, 3) := by decide +kernel
theorem dX7_makes_53 : decode cX7_makes 53 = .ok (.iload 4, 2) := by decide +kernel
theorem dX7_makes_55 : decode cX7_makes 55 = .ok (.iconst 4, 1) := by decide +kernel
theorem dX7_makes_56 : decode cX7_makes 56 = .ok (.iadd, 1) := by decide +kernel
theorem dX7_makes_57 : decode cX7_makes 57 = .ok (.iconst 0, 1) := by decide +kernel
theorem dX7_makes_58 : decode cX7_makes 58 = .ok (.iastore, 1) := by decide +kernel
theorem dX7_makes_59 : decode cX7_makes 59 = .ok (.aload_n 0, 1) := by decide +kernel
theorem dX7_makes_60 : decode cX7_makes 60 = .ok (.getfield 7, 3) := by decide +kernel
theorem dX7_makes_63 : decode cX7_makes 63 = .ok (.iload 4, 2) := by decide +kernel
theorem dX7_makes_65 : decode cX7_makes 65 = .ok (.iconst 5, 1) := by decide +kernel
theorem dX7_makes_66 : decode cX7_makes 66 = .ok (.iadd, 1) := by decide +kernel
theorem dX7_makes_67 : decode cX7_makes 67 = .ok (.iconst 0, 1) := by decide +kernel
theorem dX7_makes_68 : decode cX7_makes 68 = .ok (.iastore, 1) := by decide +kernel
theorem dX7_makes_69 : decode cX7_makes 69 = .ok (.aload_n 0, 1) := by decide +kernel
theorem dX7_makes_70 : decode cX7_makes 70 = .ok (.getfield 7, 3) := by decide +kernel
theorem dX7_makes_73 : decode cX7_makes 73 = .ok (.iconst 0, 1) := by decide +kernel
theorem dX7_makes_74 : decode cX7_makes 74 = .ok (.dup2, 1) := by decide +kernel
theorem dX7_makes_75 : decode cX7_makes 75 = .ok (.iaload, 1) := by decide +kernel
theorem dX7_makes_76 : decode cX7_makes 76 = .ok (.iconst 1, 1) := by decide +kernel
theorem dX7_makes_77 : decode cX7_makes 77 = .ok (.iadd, 1) := by decide +kernel
theorem dX7_makes_78 : decode cX7_makes 78 = .ok (.iastore, 1) := by decide +kernel
theorem dX7_makes_79 : decode cX7_makes 79 = .ok (.aload_n 0, 1) := by decide +kernel
theorem dX7_makes_80 : decode cX7_makes 80 = .ok (.getfield 7, 3) := by decide +kernel
theorem dX7_makes_83 : decode cX7_makes 83 = .ok (.iconst 0, 1) := by decide +kernel
theorem dX7_makes_84 : decode cX7_makes 84 = .ok (.iaload, 1) := by decide +kernel
theorem dX7_makes_85 : decode cX7_makes 85 = .ok (.iconst 1, 1) := by decide +kernel
theorem dX7_makes_86 : decode cX7_makes 86 = .ok (.isub, 1) := by decide +kernel
theorem dX7_makes_87 : decode cX7_makes 87 = .ok (.ireturn, 1) := by decide +kernel
theorem dX7_make_0 : decode cX7_make 0 = .ok (.aload_n 0, 1) := by decide +kernel
theorem dX7_make_1 : decode cX7_make 1 = .ok (.iload_n 1, 1) := by decide +kernel
theorem dX7_make_2 : decode cX7_make 2 = .ok (.iconst 1, 1) := by decide +kernel
theorem dX7_make_3 : decode cX7_make 3 = .ok (.bipush 9, 2) := by decide +kernel
theorem dX7_make_5 : decode cX7_make 5 = .ok (.invokestatic 42, 3) := by decide +kernel
theorem dX7_make_8 : decode cX7_make 8 = .ok (.ifCond .eq 15, 3) := by decide +kernel
theorem dX7_make_11 : decode cX7_make 11 = .ok (.iload_n 2, 1) := by decide +kernel
theorem dX7_make_12 : decode cX7_make 12 = .ok (.iload_n 3, 1) := by decide +kernel
theorem dX7_make_13 : decode cX7_make 13 = .ok (.invokestatic 66, 3) := by decide +kernel
theorem dX7_make_16 : decode cX7_make 16 = .ok (.ifCond .eq 7, 3) := by decide +kernel
theorem dX7_make_19 : decode cX7_make 19 = .ok (.iconst 1, 1) := by decide +kernel
theorem dX7_make_20 : decode cX7_make 20 = .ok (.goto 4, 3) := by decide +kernel
theorem dX7_make_23 : decode cX7_make 23 = .ok (.iconst 0, 1) := by decide +kernel
theorem dX7_make_24 : decode cX7_make 24 = .ok (.aload_n 0, 1) := by decide +kernel
theorem dX7_make_25 : decode cX7_make 25 = .ok (.getfield 7, 3) := by decide +kernel
theorem dX7_make_28 : decode cX7_make 28 = .ok (.iconst 0, 1) := by decide +kernel
theorem dX7_make_29 : decode cX7_make 29 = .ok (.iaload, 1) := by decide +kernel
theorem dX7_make_30 : decode cX7_make 30 = .ok (.bipush 10, 2) := by decide +kernel
theorem dX7_make_32 : decode cX7_make 32 = .ok (.if_icmp .ge 7, 3) := by decide +kernel
theorem dX7_make_35 : decode cX7_make 35 = .ok (.iconst 1, 1) := by decide +kernel
theorem dX7_make_36 : decode cX7_make 36 = .ok (.goto 4, 3) := by decide +kernel
theorem dX7_make_39 : decode cX7_make 39 = .ok (.iconst 0, 1) := by decide +kernel
theorem dX7_make_40 : decode cX7_make 40 = .ok (.iconst 1, 1) := by decide +kernel
theorem dX7_make_41 : decode cX7_make 41 = .ok (.invokevirtual 69, 3) := by decide +kernel
theorem dX7_make_44 : decode cX7_make 44 = .ok (.ifCond .ne 5, 3) := by decide +kernel
theorem dX7_make_47 : decode cX7_make 47 = .ok (.iconst 0, 1) := by decide +kernel
theorem dX7_make_48 : decode cX7_make 48 = .ok (.ireturn, 1) := by decide +kernel
theorem dX7_make_49 : decode cX7_make 49 = .ok (.aload_n 0, 1) := by decide +kernel
theorem dX7_make_50 : decode cX7_make 50 = .ok (.invokevirtual 73, 3) := by decide +kernel
theorem dX7_make_53 : decode cX7_make 53 = .ok (.aload_n 0, 1) := by decide +kernel
theorem dX7_make_54 : decode cX7_make 54 = .ok (.iload_n 1, 1) := by decide +kernel
theorem dX7_make_55 : decode cX7_make 55 = .ok (.iload_n 2, 1) := by decide +kernel
theorem dX7_make_56 : decode cX7_make 56 = .ok (.iload_n 3, 1) := by decide +kernel
theorem dX7_make_57 : decode cX7_make 57 = .ok (.invokevirtual 76, 3) := by decide +kernel
theorem dX7_make_60 : decode cX7_make 60 = .ok (.ireturn, 1) := by decide +kernel
theorem dX7_withdraw_0 : decode cX7_withdraw 0 = .ok (.aload_n 0, 1) := by decide +kernel
theorem dX7_withdraw_1 : decode cX7_withdraw 1 = .ok (.aload_n 0, 1) := by decide +kernel
theorem dX7_withdraw_2 : decode cX7_withdraw 2 = .ok (.iload_n 1, 1) := by decide +kernel
theorem dX7_withdraw_3 : decode cX7_withdraw 3 = .ok (.invokevirtual 80, 3) := by decide +kernel
theorem dX7_withdraw_6 : decode cX7_withdraw 6 = .ok (.iconst 1, 1) := by decide +kernel
theorem dX7_withdraw_7 : decode cX7_withdraw 7 = .ok (.iconst 1, 1) := by decide +kernel
theorem dX7_withdraw_8 : decode cX7_withdraw 8 = .ok (.invokevirtual 69, 3) := by decide +kernel
theorem dX7_withdraw_11 : decode cX7_withdraw 11 = .ok (.ifCond .ne 5, 3) := by decide +kernel
theorem dX7_withdraw_14 : decode cX7_withdraw 14 = .ok (.iconst 0, 1) := by decide +kernel
theorem dX7_withdraw_15 : decode cX7_withdraw 15 = .ok (.ireturn, 1) := by decide +kernel
theorem dX7_withdraw_16 : decode cX7_withdraw 16 = .ok (.aload_n 0, 1) := by decide +kernel
theorem dX7_withdraw_17 : decode cX7_withdraw 17 = .ok (.invokevirtual 73, 3) := by decide +kernel
theorem dX7_withdraw_20 : decode cX7_withdraw 20 = .ok (.aload_n 0, 1) := by decide +kernel
theorem dX7_withdraw_21 : decode cX7_withdraw 21 = .ok (.getfield 7, 3) := by decide +kernel
theorem dX7_withdraw_24 : decode cX7_withdraw 24 = .ok (.iconst 4, 1) := by decide +kernel
theorem dX7_withdraw_25 : decode cX7_withdraw 25 = .ok (.dup2, 1) := by decide +kernel
theorem dX7_withdraw_26 : decode cX7_withdraw 26 = .ok (.iaload, 1) := by decide +kernel
theorem dX7_withdraw_27 : decode cX7_withdraw 27 = .ok (.aload_n 0, 1) := by decide +kernel
theorem dX7_withdraw_28 : decode cX7_withdraw 28 = .ok (.getfield 7, 3) := by decide +kernel
theorem dX7_withdraw_31 : decode cX7_withdraw 31 = .ok (.iload_n 1, 1) := by decide +kernel
theorem dX7_withdraw_32 : decode cX7_withdraw 32 = .ok (.invokestatic 52, 3) := by decide +kernel
theorem dX7_withdraw_35 : decode cX7_withdraw 35 = .ok (.iconst 5, 1) := by decide +kernel
theorem dX7_withdraw_36 : decode cX7_withdraw 36 = .ok (.iadd, 1) := by decide +kernel
theorem dX7_withdraw_37 : decode cX7_withdraw 37 = .ok (.iaload, 1) := by decide +kernel
theorem dX7_withdraw_38 : decode cX7_withdraw 38 = .ok (.iadd, 1) := by decide +kernel
theorem dX7_withdraw_39 : decode cX7_withdraw 39 = .ok (.iastore, 1) := by decide +kernel
theorem dX7_withdraw_40 : decode cX7_withdraw 40 = .ok (.aload_n 0, 1) := by decide +kernel
theorem dX7_withdraw_41 : decode cX7_withdraw 41 = .ok (.getfield 7, 3) := by decide +kernel
theorem dX7_withdraw_44 : decode cX7_withdraw 44 = .ok (.iconst 0, 1) := by decide +kernel
theorem dX7_withdraw_45 : decode cX7_withdraw 45 = .ok (.dup2, 1) := by decide +kernel
theorem dX7_withdraw_46 : decode cX7_withdraw 46 = .ok (.iaload, 1) := by decide +kernel
theorem dX7_withdraw_47 : decode cX7_withdraw 47 = .ok (.iconst 1, 1) := by decide +kernel
theorem dX7_withdraw_48 : decode cX7_withdraw 48 = .ok (.isub, 1) := by decide +kernel
theorem dX7_withdraw_49 : decode cX7_withdraw 49 = .ok (.iastore, 1) := by decide +kernel
theorem dX7_withdraw_50 : decode cX7_withdraw 50 = .ok (.iload_n 1, 1) := by decide +kernel
theorem dX7_withdraw_51 : decode cX7_withdraw 51 = .ok (.invokestatic 52, 3) := by decide +kernel
theorem dX7_withdraw_54 : decode cX7_withdraw 54 = .ok (.istore_n 2, 1) := by decide +kernel
theorem dX7_withdraw_55 : decode cX7_withdraw 55 = .ok (.iload_n 2, 1) := by decide +kernel
theorem dX7_withdraw_56 : decode cX7_withdraw 56 = .ok (.aload_n 0, 1) := by decide +kernel
theorem dX7_withdraw_57 : decode cX7_withdraw 57 = .ok (.getfield 7, 3) := by decide +kernel
theorem dX7_withdraw_60 : decode cX7_withdraw 60 = .ok (.iconst 0, 1) := by decide +kernel
theorem dX7_withdraw_61 : decode cX7_withdraw 61 = .ok (.iaload, 1) := by decide +kernel
theorem dX7_withdraw_62 : decode cX7_withdraw 62 = .ok (.invokestatic 52, 3) := by decide +kernel
theorem dX7_withdraw_65 : decode cX7_withdraw 65 = .ok (.if_icmp .ge 24, 3) := by decide +kernel
theorem dX7_withdraw_68 : decode cX7_withdraw 68 = .ok (.aload_n 0, 1) := by decide +kernel
theorem dX7_withdraw_69 : decode cX7_withdraw 69 = .ok (.getfield 7, 3) := by decide +kernel
theorem dX7_withdraw_72 : decode cX7_withdraw 72 = .ok (.iload_n 2, 1) := by decide +kernel
theorem dX7_withdraw_73 : decode cX7_withdraw 73 = .ok (.aload_n 0, 1) := by decide +kernel
theorem dX7_withdraw_74 : decode cX7_withdraw 74 = .ok (.getfield 7, 3) := by decide +kernel
theorem dX7_withdraw_77 : decode cX7_withdraw 77 = .ok (.iload_n 2, 1) := by decide +kernel
theorem dX7_withdraw_78 : decode cX7_withdraw 78 = .ok (.bipush 6, 2) := by decide +kernel
theorem dX7_withdraw_80 : decode cX7_withdraw 80 = .ok (.iadd, 1) := by decide +kernel
theorem dX7_withdraw_81 : decode cX7_withdraw 81 = .ok (.iaload, 1) := by decide +kernel
theorem dX7_withdraw_82 : decode cX7_withdraw 82 = .ok (.iastore, 1) := by decide +kernel
theorem dX7_withdraw_83 : decode cX7_withdraw 83 = .ok (.iinc 2 1, 3) := by decide +kernel
theorem dX7_withdraw_86 : decode cX7_withdraw 86 = .ok (.goto (-31), 3) := by decide +kernel
theorem dX7_withdraw_89 : decode cX7_withdraw 89 = .ok (.aload_n 0, 1) := by decide +kernel
theorem dX7_withdraw_90 : decode cX7_withdraw 90 = .ok (.getfield 7, 3) := by decide +kernel
theorem dX7_withdraw_93 : decode cX7_withdraw 93 = .ok (.iconst 0, 1) := by decide +kernel
theorem dX7_withdraw_94 : decode cX7_withdraw 94 = .ok (.iaload, 1) := by decide +kernel
theorem dX7_withdraw_95 : decode cX7_withdraw 95 = .ok (.ireturn, 1) := by decide +kernel
theorem dX7_setStrict_0 : decode cX7_setStrict 0 = .ok (.aload_n 0, 1) := by decide +kernel
theorem dX7_setStrict_1 : decode cX7_setStrict 1 = .ok (.aload_n 0, 1) := by decide +kernel
theorem dX7_setStrict_2 : decode cX7_setStrict 2 = .ok (.iload_n 1, 1) := by decide +kernel
theorem dX7_setStrict_3 : decode cX7_setStrict 3 = .ok (.invokevirtual 80, 3) := by decide +kernel
theorem dX7_setStrict_6 : decode cX7_setStrict 6 = .ok (.iconst 1, 1) := by decide +kernel
theorem dX7_setStrict_7 : decode cX7_setStrict 7 = .ok (.iconst 1, 1) := by decide +kernel
theorem dX7_setStrict_8 : decode cX7_setStrict 8 = .ok (.invokevirtual 69, 3) := by decide +kernel
theorem dX7_setStrict_11 : decode cX7_setStrict 11 = .ok (.ifCond .ne 5, 3) := by decide +kernel
theorem dX7_setStrict_14 : decode cX7_setStrict 14 = .ok (.iconst 0, 1) := by decide +kernel
theorem dX7_setStrict_15 : decode cX7_setStrict 15 = .ok (.ireturn, 1) := by decide +kernel
theorem dX7_setStrict_16 : decode cX7_setStrict 16 = .ok (.aload_n 0, 1) := by decide +kernel
theorem dX7_setStrict_17 : decode cX7_setStrict 17 = .ok (.invokevirtual 73, 3) := by decide +kernel
theorem dX7_setStrict_20 : decode cX7_setStrict 20 = .ok (.aload_n 0, 1) := by decide +kernel
theorem dX7_setStrict_21 : decode cX7_setStrict 21 = .ok (.getfield 7, 3) := by decide +kernel
theorem dX7_setStrict_24 : decode cX7_setStrict 24 = .ok (.iload_n 1, 1) := by decide +kernel
theorem dX7_setStrict_25 : decode cX7_setStrict 25 = .ok (.invokestatic 52, 3) := by decide +kernel
theorem dX7_setStrict_28 : decode cX7_setStrict 28 = .ok (.iconst 3, 1) := by decide +kernel
theorem dX7_setStrict_29 : decode cX7_setStrict 29 = .ok (.iadd, 1) := by decide +kernel
theorem dX7_setStrict_30 : decode cX7_setStrict 30 = .ok (.iaload, 1) := by decide +kernel
theorem dX7_setStrict_31 : decode cX7_setStrict 31 = .ok (.iconst 1, 1) := by decide +kernel
theorem dX7_setStrict_32 : decode cX7_setStrict 32 = .ok (.if_icmp .ne 7, 3) := by decide +kernel
theorem dX7_setStrict_35 : decode cX7_setStrict 35 = .ok (.iconst 1, 1) := by decide +kernel
theorem dX7_setStrict_36 : decode cX7_setStrict 36 = .ok (.goto 4, 3) := by decide +kernel
theorem dX7_setStrict_39 : decode cX7_setStrict 39 = .ok (.iconst 0, 1) := by decide +kernel
theorem dX7_setStrict_40 : decode cX7_setStrict 40 = .ok (.istore_n 3, 1) := by decide +kernel
theorem dX7_setStrict_41 : decode cX7_setStrict 41 = .ok (.aload_n 0, 1) := by decide +kernel
theorem dX7_setStrict_42 : decode cX7_setStrict 42 = .ok (.getfield 7, 3) := by decide +kernel
theorem dX7_setStrict_45 : decode cX7_setStrict 45 = .ok (.iload_n 1, 1) := by decide +kernel
theorem dX7_setStrict_46 : decode cX7_setStrict 46 = .ok (.invokestatic 52, 3) := by decide +kernel
theorem dX7_setStrict_49 : decode cX7_setStrict 49 = .ok (.iconst 3, 1) := by decide +kernel
theorem dX7_setStrict_50 : decode cX7_setStrict 50 = .ok (.iadd, 1) := by decide +kernel
theorem dX7_setStrict_51 : decode cX7_setStrict 51 = .ok (.iload_n 2, 1) := by decide +kernel
theorem dX7_setStrict_52 : decode cX7_setStrict 52 = .ok (.ifCond .eq 7, 3) := by decide +kernel
theorem dX7_setStrict_55 : decode cX7_setStrict 55 = .ok (.iconst 1, 1) := by decide +kernel
theorem dX7_setStrict_56 : decode cX7_setStrict 56 = .ok (.goto 4, 3) := by decide +kernel
theorem dX7_setStrict_59 : decode cX7_setStrict 59 = .ok (.iconst 0, 1) := by decide +kernel
theorem dX7_setStrict_60 : decode cX7_setStrict 60 = .ok (.iastore, 1) := by decide +kernel
theorem dX7_setStrict_61 : decode cX7_setStrict 61 = .ok (.iload_n 3, 1) := by decide +kernel
theorem dX7_setStrict_62 : decode cX7_setStrict 62 = .ok (.ireturn, 1) := by decide +kernel
theorem dX7_waives_0 : decode cX7_waives 0 = .ok (.aload_n 0, 1) := by decide +kernel
theorem dX7_waives_1 : decode cX7_waives 1 = .ok (.getfield 7, 3) := by decide +kernel
theorem dX7_waives_4 : decode cX7_waives 4 = .ok (.iload_n 1, 1) := by decide +kernel
theorem dX7_waives_5 : decode cX7_waives 5 = .ok (.invokestatic 52, 3) := by decide +kernel
theorem dX7_waives_8 : decode cX7_waives 8 = .ok (.iconst 4, 1) := by decide +kernel
theorem dX7_waives_9 : decode cX7_waives 9 = .ok (.iadd, 1) := by decide +kernel
theorem dX7_waives_10 : decode cX7_waives 10 = .ok (.aload_n 0, 1) := by decide +kernel
theorem dX7_waives_11 : decode cX7_waives 11 = .ok (.getfield 7, 3) := by decide +kernel
theorem dX7_waives_14 : decode cX7_waives 14 = .ok (.iconst 2, 1) := by decide +kernel
theorem dX7_waives_15 : decode cX7_waives 15 = .ok (.iaload, 1) := by decide +kernel
theorem dX7_waives_16 : decode cX7_waives 16 = .ok (.iload_n 2, 1) := by decide +kernel
theorem dX7_waives_17 : decode cX7_waives 17 = .ok (.iadd, 1) := by decide +kernel
theorem dX7_waives_18 : decode cX7_waives 18 = .ok (.iastore, 1) := by decide +kernel
theorem dX7_waives_19 : decode cX7_waives 19 = .ok (.aload_n 0, 1) := by decide +kernel
theorem dX7_waives_20 : decode cX7_waives 20 = .ok (.getfield 7, 3) := by decide +kernel
theorem dX7_waives_23 : decode cX7_waives 23 = .ok (.iload_n 1, 1) := by decide +kernel
theorem dX7_waives_24 : decode cX7_waives 24 = .ok (.invokestatic 52, 3) := by decide +kernel
theorem dX7_waives_27 : decode cX7_waives 27 = .ok (.iconst 4, 1) := by decide +kernel
theorem dX7_waives_28 : decode cX7_waives 28 = .ok (.iadd, 1) := by decide +kernel
theorem dX7_waives_29 : decode cX7_waives 29 = .ok (.iaload, 1) := by decide +kernel
theorem dX7_waives_30 : decode cX7_waives 30 = .ok (.ireturn, 1) := by decide +kernel
theorem dX7_waive_0 : decode cX7_waive 0 = .ok (.aload_n 0, 1) := by decide +kernel
theorem dX7_waive_1 : decode cX7_waive 1 = .ok (.aload_n 0, 1) := by decide +kernel
theorem dX7_waive_2 : decode cX7_waive 2 = .ok (.iload_n 1, 1) := by decide +kernel
theorem dX7_waive_3 : decode cX7_waive 3 = .ok (.invokevirtual 80, 3) := by decide +kernel
theorem dX7_waive_6 : decode cX7_waive 6 = .ok (.iload_n 2, 1) := by decide +kernel
theorem dX7_waive_7 : decode cX7_waive 7 = .ok (.iconst 0, 1) := by decide +kernel
theorem dX7_waive_8 : decode cX7_waive 8 = .ok (.bipush 30, 2) := by decide +kernel
theorem dX7_waive_10 : decode cX7_waive 10 = .ok (.invokestatic 42, 3) := by decide +kernel
theorem dX7_waive_13 : decode cX7_waive 13 = .ok (.iconst 1, 1) := by decide +kernel
theorem dX7_waive_14 : decode cX7_waive 14 = .ok (.invokevirtual 69, 3) := by decide +kernel
theorem dX7_waive_17 : decode cX7_waive 17 = .ok (.ifCond .ne 5, 3) := by decide +kernel
theorem dX7_waive_20 : decode cX7_waive 20 = .ok (.iconst 0, 1) := by decide +kernel
theorem dX7_waive_21 : decode cX7_waive 21 = .ok (.ireturn, 1) := by decide +kernel
theorem dX7_waive_22 : decode cX7_waive 22 = .ok (.aload_n 0, 1) := by decide +kernel
theorem dX7_waive_23 : decode cX7_waive 23 = .ok (.invokevirtual 73, 3) := by decide +kernel
theorem dX7_waive_26 : decode cX7_waive 26 = .ok (.aload_n 0, 1) := by decide +kernel
theorem dX7_waive_27 : decode cX7_waive 27 = .ok (.iload_n 1, 1) := by decide +kernel
theorem dX7_waive_28 : decode cX7_waive 28 = .ok (.iload_n 2, 1) := by decide +kernel
theorem dX7_waive_29 : decode cX7_waive 29 = .ok (.invokevirtual 84, 3) := by decide +kernel
theorem dX7_waive_32 : decode cX7_waive 32 = .ok (.ireturn, 1) := by decide +kernel
theorem dX7_isRoom_0 : decode cX7_isRoom 0 = .ok (.iload_n 0, 1) := by decide +kernel
theorem dX7_isRoom_1 : decode cX7_isRoom 1 = .ok (.iconst 0, 1) := by decide +kernel
theorem dX7_isRoom_2 : decode cX7_isRoom 2 = .ok (.iconst 5, 1) := by decide +kernel
theorem dX7_isRoom_3 : decode cX7_isRoom 3 = .ok (.invokestatic 42, 3) := by decide +kernel
theorem dX7_isRoom_6 : decode cX7_isRoom 6 = .ok (.ireturn, 1) := by decide +kernel
theorem dX7_isLet_0 : decode cX7_isLet 0 = .ok (.aload_n 0, 1) := by decide +kernel
theorem dX7_isLet_1 : decode cX7_isLet 1 = .ok (.getfield 7, 3) := by decide +kernel
theorem dX7_isLet_4 : decode cX7_isLet 4 = .ok (.iconst 1, 1) := by decide +kernel
theorem dX7_isLet_5 : decode cX7_isLet 5 = .ok (.iaload, 1) := by decide +kernel
theorem dX7_isLet_6 : decode cX7_isLet 6 = .ok (.iload_n 1, 1) := by decide +kernel
theorem dX7_isLet_7 : decode cX7_isLet 7 = .ok (.invokestatic 46, 3) := by decide +kernel
theorem dX7_isLet_10 : decode cX7_isLet 10 = .ok (.ireturn, 1) := by decide +kernel
theorem dX7_refuser_0 : decode cX7_refuser 0 = .ok (.iconst (-1), 1) := by decide +kernel
theorem dX7_refuser_1 : decode cX7_refuser 1 = .ok (.istore_n 2, 1) := by decide +kernel
theorem dX7_refuser_2 : decode cX7_refuser 2 = .ok (.aload_n 0, 1) := by decide +kernel
theorem dX7_refuser_3 : decode cX7_refuser 3 = .ok (.getfield 7, 3) := by decide +kernel
theorem dX7_refuser_6 : decode cX7_refuser 6 = .ok (.iconst 0, 1) := by decide +kernel
theorem dX7_refuser_7 : decode cX7_refuser 7 = .ok (.iaload, 1) := by decide +kernel
theorem dX7_refuser_8 : decode cX7_refuser 8 = .ok (.iconst 1, 1) := by decide +kernel
theorem dX7_refuser_9 : decode cX7_refuser 9 = .ok (.isub, 1) := by decide +kernel
theorem dX7_refuser_10 : decode cX7_refuser 10 = .ok (.istore_n 3, 1) := by decide +kernel
theorem dX7_refuser_11 : decode cX7_refuser 11 = .ok (.iload_n 3, 1) := by decide +kernel
theorem dX7_refuser_12 : decode cX7_refuser 12 = .ok (.ifCond .lt 88, 3) := by decide +kernel
theorem dX7_refuser_15 : decode cX7_refuser 15 = .ok (.aload_n 0, 1) := by decide +kernel
theorem dX7_refuser_16 : decode cX7_refuser 16 = .ok (.getfield 7, 3) := by decide +kernel
theorem dX7_refuser_19 : decode cX7_refuser 19 = .ok (.iload_n 3, 1) := by decide +kernel
theorem dX7_refuser_20 : decode cX7_refuser 20 = .ok (.invokestatic 52, 3) := by decide +kernel
theorem dX7_refuser_23 : decode cX7_refuser 23 = .ok (.iconst 3, 1) := by decide +kernel
theorem dX7_refuser_24 : decode cX7_refuser 24 = .ok (.iadd, 1) := by decide +kernel
theorem dX7_refuser_25 : decode cX7_refuser 25 = .ok (.iaload, 1) := by decide +kernel
theorem dX7_refuser_26 : decode cX7_refuser 26 = .ok (.iconst 1, 1) := by decide +kernel
theorem dX7_refuser_27 : decode cX7_refuser 27 = .ok (.if_icmp .ne 53, 3) := by decide +kernel
theorem dX7_refuser_30 : decode cX7_refuser 30 = .ok (.aload_n 0, 1) := by decide +kernel
theorem dX7_refuser_31 : decode cX7_refuser 31 = .ok (.iload_n 3, 1) := by decide +kernel
theorem dX7_refuser_32 : decode cX7_refuser 32 = .ok (.aload_n 0, 1) := by decide +kernel
theorem dX7_refuser_33 : decode cX7_refuser 33 = .ok (.getfield 7, 3) := by decide +kernel
theorem dX7_refuser_36 : decode cX7_refuser 36 = .ok (.iconst 2, 1) := by decide +kernel
theorem dX7_refuser_37 : decode cX7_refuser 37 = .ok (.iaload, 1) := by decide +kernel
theorem dX7_refuser_38 : decode cX7_refuser 38 = .ok (.invokevirtual 60, 3) := by decide +kernel
theorem dX7_refuser_41 : decode cX7_refuser 41 = .ok (.ifCond .eq 39, 3) := by decide +kernel
theorem dX7_refuser_44 : decode cX7_refuser 44 = .ok (.aload_n 0, 1) := by decide +kernel
theorem dX7_refuser_45 : decode cX7_refuser 45 = .ok (.iload_n 3, 1) := by decide +kernel
theorem dX7_refuser_46 : decode cX7_refuser 46 = .ok (.aload_n 0, 1) := by decide +kernel
theorem dX7_refuser_47 : decode cX7_refuser 47 = .ok (.getfield 7, 3) := by decide +kernel
theorem dX7_refuser_50 : decode cX7_refuser 50 = .ok (.iconst 1, 1) := by decide +kernel
theorem dX7_refuser_51 : decode cX7_refuser 51 = .ok (.iaload, 1) := by decide +kernel
theorem dX7_refuser_52 : decode cX7_refuser 52 = .ok (.invokevirtual 63, 3) := by decide +kernel
theorem dX7_refuser_55 : decode cX7_refuser 55 = .ok (.ifCond .eq 25, 3) := by decide +kernel
theorem dX7_refuser_58 : decode cX7_refuser 58 = .ok (.aload_n 0, 1) := by decide +kernel
theorem dX7_refuser_59 : decode cX7_refuser 59 = .ok (.iload_n 3, 1) := by decide +kernel
theorem dX7_refuser_60 : decode cX7_refuser 60 = .ok (.aload_n 0, 1) := by decide +kernel
theorem dX7_refuser_61 : decode cX7_refuser 61 = .ok (.getfield 7, 3) := by decide +kernel
theorem dX7_refuser_64 : decode cX7_refuser 64 = .ok (.iconst 1, 1) := by decide +kernel
theorem dX7_refuser_65 : decode cX7_refuser 65 = .ok (.iaload, 1) := by decide +kernel
theorem dX7_refuser_66 : decode cX7_refuser 66 = .ok (.iconst 1, 1) := by decide +kernel
theorem dX7_refuser_67 : decode cX7_refuser 67 = .ok (.iload_n 1, 1) := by decide +kernel
theorem dX7_refuser_68 : decode cX7_refuser 68 = .ok (.ishl, 1) := by decide +kernel
theorem dX7_refuser_69 : decode cX7_refuser 69 = .ok (.ixor, 1) := by decide +kernel
theorem dX7_refuser_70 : decode cX7_refuser 70 = .ok (.invokevirtual 63, 3) := by decide +kernel
theorem dX7_refuser_73 : decode cX7_refuser 73 = .ok (.ifCond .ne 7, 3) := by decide +kernel
theorem dX7_refuser_76 : decode cX7_refuser 76 = .ok (.iconst 1, 1) := by decide +kernel
theorem dX7_refuser_77 : decode cX7_refuser 77 = .ok (.goto 4, 3) := by decide +kernel
theorem dX7_refuser_80 : decode cX7_refuser 80 = .ok (.iconst 0, 1) := by decide +kernel
theorem dX7_refuser_81 : decode cX7_refuser 81 = .ok (.istore 4, 2) := by decide +kernel
theorem dX7_refuser_83 : decode cX7_refuser 83 = .ok (.iload 4, 2) := by decide +kernel
theorem dX7_refuser_85 : decode cX7_refuser 85 = .ok (.ifCond .eq 7, 3) := by decide +kernel
theorem dX7_refuser_88 : decode cX7_refuser 88 = .ok (.iload_n 3, 1) := by decide +kernel
theorem dX7_refuser_89 : decode cX7_refuser 89 = .ok (.goto 4, 3) := by decide +kernel
theorem dX7_refuser_92 : decode cX7_refuser 92 = .ok (.iload_n 2, 1) := by decide +kernel
theorem dX7_refuser_93 : decode cX7_refuser 93 = .ok (.istore_n 2, 1) := by decide +kernel
theorem dX7_refuser_94 : decode cX7_refuser 94 = .ok (.iinc 3 (-1), 3) := by decide +kernel
theorem dX7_refuser_97 : decode cX7_refuser 97 = .ok (.goto (-86), 3) := by decide +kernel
theorem dX7_refuser_100 : decode cX7_refuser 100 = .ok (.iload_n 2, 1) := by decide +kernel
theorem dX7_refuser_101 : decode cX7_refuser 101 = .ok (.ireturn, 1) := by decide +kernel
theorem dX7_turns_0 : decode cX7_turns 0 = .ok (.aload_n 0, 1) := by decide +kernel
theorem dX7_turns_1 : decode cX7_turns 1 = .ok (.getfield 7, 3) := by decide +kernel
theorem dX7_turns_4 : decode cX7_turns 4 = .ok (.iconst 1, 1) := by decide +kernel
theorem dX7_turns_5 : decode cX7_turns 5 = .ok (.aload_n 0, 1) := by decide +kernel
theorem dX7_turns_6 : decode cX7_turns 6 = .ok (.getfield 7, 3) := by decide +kernel
theorem dX7_turns_9 : decode cX7_turns 9 = .ok (.iconst 1, 1) := by decide +kernel
theorem dX7_turns_10 : decode cX7_turns 10 = .ok (.iaload, 1) := by decide +kernel
theorem dX7_turns_11 : decode cX7_turns 11 = .ok (.iconst 1, 1) := by decide +kernel
theorem dX7_turns_12 : decode cX7_turns 12 = .ok (.iload_n 1, 1) := by decide +kernel
theorem dX7_turns_13 : decode cX7_turns 13 = .ok (.ishl, 1) := by decide +kernel
theorem dX7_turns_14 : decode cX7_turns 14 = .ok (.ixor, 1) := by decide +kernel
theorem dX7_turns_15 : decode cX7_turns 15 = .ok (.iastore, 1) := by decide +kernel
theorem dX7_turns_16 : decode cX7_turns 16 = .ok (.aload_n 0, 1) := by decide +kernel
theorem dX7_turns_17 : decode cX7_turns 17 = .ok (.getfield 7, 3) := by decide +kernel
theorem dX7_turns_20 : decode cX7_turns 20 = .ok (.iconst 1, 1) := by decide +kernel
theorem dX7_turns_21 : decode cX7_turns 21 = .ok (.iaload, 1) := by decide +kernel
theorem dX7_turns_22 : decode cX7_turns 22 = .ok (.ireturn, 1) := by decide +kernel
theorem dX7_turnsIf_0 : decode cX7_turnsIf 0 = .ok (.iload_n 1, 1) := by decide +kernel
theorem dX7_turnsIf_1 : decode cX7_turnsIf 1 = .ok (.invokestatic 88, 3) := by decide +kernel
theorem dX7_turnsIf_4 : decode cX7_turnsIf 4 = .ok (.istore_n 3, 1) := by decide +kernel
theorem dX7_turnsIf_5 : decode cX7_turnsIf 5 = .ok (.aload_n 0, 1) := by decide +kernel
theorem dX7_turnsIf_6 : decode cX7_turnsIf 6 = .ok (.iload_n 3, 1) := by decide +kernel
theorem dX7_turnsIf_7 : decode cX7_turnsIf 7 = .ok (.iload_n 3, 1) := by decide +kernel
theorem dX7_turnsIf_8 : decode cX7_turnsIf 8 = .ok (.ifCond .eq 24, 3) := by decide +kernel
theorem dX7_turnsIf_11 : decode cX7_turnsIf 11 = .ok (.aload_n 0, 1) := by decide +kernel
theorem dX7_turnsIf_12 : decode cX7_turnsIf 12 = .ok (.iload_n 1, 1) := by decide +kernel
theorem dX7_turnsIf_13 : decode cX7_turnsIf 13 = .ok (.invokevirtual 91, 3) := by decide +kernel
theorem dX7_turnsIf_16 : decode cX7_turnsIf 16 = .ok (.iload_n 2, 1) := by decide +kernel
theorem dX7_turnsIf_17 : decode cX7_turnsIf 17 = .ok (.if_icmp .ne 15, 3) := by decide +kernel
theorem dX7_turnsIf_20 : decode cX7_turnsIf 20 = .ok (.aload_n 0, 1) := by decide +kernel
theorem dX7_turnsIf_21 : decode cX7_turnsIf 21 = .ok (.iload_n 1, 1) := by decide +kernel
theorem dX7_turnsIf_22 : decode cX7_turnsIf 22 = .ok (.invokevirtual 94, 3) := by decide +kernel
theorem dX7_turnsIf_25 : decode cX7_turnsIf 25 = .ok (.ifCond .ge 7, 3) := by decide +kernel
theorem dX7_turnsIf_28 : decode cX7_turnsIf 28 = .ok (.iconst 1, 1) := by decide +kernel
theorem dX7_turnsIf_29 : decode cX7_turnsIf 29 = .ok (.goto 4, 3) := by decide +kernel
theorem dX7_turnsIf_32 : decode cX7_turnsIf 32 = .ok (.iconst 0, 1) := by decide +kernel
theorem dX7_turnsIf_33 : decode cX7_turnsIf 33 = .ok (.iconst 1, 1) := by decide +kernel
theorem dX7_turnsIf_34 : decode cX7_turnsIf 34 = .ok (.invokevirtual 69, 3) := by decide +kernel
theorem dX7_turnsIf_37 : decode cX7_turnsIf 37 = .ok (.ifCond .ne 5, 3) := by decide +kernel
theorem dX7_turnsIf_40 : decode cX7_turnsIf 40 = .ok (.iconst 0, 1) := by decide +kernel
theorem dX7_turnsIf_41 : decode cX7_turnsIf 41 = .ok (.ireturn, 1) := by decide +kernel
theorem dX7_turnsIf_42 : decode cX7_turnsIf 42 = .ok (.aload_n 0, 1) := by decide +kernel
theorem dX7_turnsIf_43 : decode cX7_turnsIf 43 = .ok (.invokevirtual 73, 3) := by decide +kernel
theorem dX7_turnsIf_46 : decode cX7_turnsIf 46 = .ok (.aload_n 0, 1) := by decide +kernel
theorem dX7_turnsIf_47 : decode cX7_turnsIf 47 = .ok (.iload_n 1, 1) := by decide +kernel
theorem dX7_turnsIf_48 : decode cX7_turnsIf 48 = .ok (.invokevirtual 97, 3) := by decide +kernel
theorem dX7_turnsIf_51 : decode cX7_turnsIf 51 = .ok (.ireturn, 1) := by decide +kernel
theorem dX7_come_0 : decode cX7_come 0 = .ok (.aload_n 0, 1) := by decide +kernel
theorem dX7_come_1 : decode cX7_come 1 = .ok (.iload_n 1, 1) := by decide +kernel
theorem dX7_come_2 : decode cX7_come 2 = .ok (.iconst 0, 1) := by decide +kernel
theorem dX7_come_3 : decode cX7_come 3 = .ok (.invokevirtual 100, 3) := by decide +kernel
theorem dX7_come_6 : decode cX7_come 6 = .ok (.ireturn, 1) := by decide +kernel
theorem dX7_go_0 : decode cX7_go 0 = .ok (.aload_n 0, 1) := by decide +kernel
theorem dX7_go_1 : decode cX7_go 1 = .ok (.iload_n 1, 1) := by decide +kernel
theorem dX7_go_2 : decode cX7_go 2 = .ok (.iconst 1, 1) := by decide +kernel
theorem dX7_go_3 : decode cX7_go 3 = .ok (.invokevirtual 100, 3) := by decide +kernel
theorem dX7_go_6 : decode cX7_go 6 = .ok (.ireturn, 1) := by decide +kernel
theorem dX7_nights_0 : decode cX7_nights 0 = .ok (.iconst 0, 1) := by decide +kernel
theorem dX7_nights_1 : decode cX7_nights 1 = .ok (.istore_n 2, 1) := by decide +kernel
theorem dX7_nights_2 : decode cX7_nights 2 = .ok (.iconst 0, 1) := by decide +kernel
theorem dX7_nights_3 : decode cX7_nights 3 = .ok (.istore_n 3, 1) := by decide +kernel
theorem dX7_nights_4 : decode cX7_nights 4 = .ok (.iload_n 3, 1) := by decide +kernel
theorem dX7_nights_5 : decode cX7_nights 5 = .ok (.iload_n 1, 1) := by decide +kernel
theorem dX7_nights_6 : decode cX7_nights 6 = .ok (.if_icmp .ge 101, 3) := by decide +kernel
theorem dX7_nights_9 : decode cX7_nights 9 = .ok (.aload_n 0, 1) := by decide +kernel
theorem dX7_nights_10 : decode cX7_nights 10 = .ok (.aload_n 0, 1) := by decide +kernel
theorem dX7_nights_11 : decode cX7_nights 11 = .ok (.getfield 7, 3) := by decide +kernel
theorem dX7_nights_14 : decode cX7_nights 14 = .ok (.iconst 1, 1) := by decide +kernel
theorem dX7_nights_15 : decode cX7_nights 15 = .ok (.iaload, 1) := by decide +kernel
theorem dX7_nights_16 : decode cX7_nights 16 = .ok (.invokevirtual 104, 3) := by decide +kernel
theorem dX7_nights_19 : decode cX7_nights 19 = .ok (.istore 4, 2) := by decide +kernel
theorem dX7_nights_21 : decode cX7_nights 21 = .ok (.iconst 0, 1) := by decide +kernel
theorem dX7_nights_22 : decode cX7_nights 22 = .ok (.istore 5, 2) := by decide +kernel
theorem dX7_nights_24 : decode cX7_nights 24 = .ok (.iload 5, 2) := by decide +kernel
theorem dX7_nights_26 : decode cX7_nights 26 = .ok (.aload_n 0, 1) := by decide +kernel
theorem dX7_nights_27 : decode cX7_nights 27 = .ok (.getfield 7, 3) := by decide +kernel
theorem dX7_nights_30 : decode cX7_nights 30 = .ok (.iconst 0, 1) := by decide +kernel
theorem dX7_nights_31 : decode cX7_nights 31 = .ok (.iaload, 1) := by decide +kernel
theorem dX7_nights_32 : decode cX7_nights 32 = .ok (.if_icmp .ge 50, 3) := by decide +kernel
theorem dX7_nights_35 : decode cX7_nights 35 = .ok (.aload_n 0, 1) := by decide +kernel
theorem dX7_nights_36 : decode cX7_nights 36 = .ok (.getfield 7, 3) := by decide +kernel
theorem dX7_nights_39 : decode cX7_nights 39 = .ok (.iload 5, 2) := by decide +kernel
theorem dX7_nights_41 : decode cX7_nights 41 = .ok (.invokestatic 52, 3) := by decide +kernel
theorem dX7_nights_44 : decode cX7_nights 44 = .ok (.iconst 5, 1) := by decide +kernel
theorem dX7_nights_45 : decode cX7_nights 45 = .ok (.iadd, 1) := by decide +kernel
theorem dX7_nights_46 : decode cX7_nights 46 = .ok (.dup2, 1) := by decide +kernel
theorem dX7_nights_47 : decode cX7_nights 47 = .ok (.iaload, 1) := by decide +kernel
theorem dX7_nights_48 : decode cX7_nights 48 = .ok (.iload 4, 2) := by decide +kernel
theorem dX7_nights_50 : decode cX7_nights 50 = .ok (.iload 5, 2) := by decide +kernel
theorem dX7_nights_52 : decode cX7_nights 52 = .ok (.invokestatic 46, 3) := by decide +kernel
theorem dX7_nights_55 : decode cX7_nights 55 = .ok (.ifCond .eq 18, 3) := by decide +kernel
theorem dX7_nights_58 : decode cX7_nights 58 = .ok (.aload_n 0, 1) := by decide +kernel
theorem dX7_nights_59 : decode cX7_nights 59 = .ok (.getfield 7, 3) := by decide +kernel
theorem dX7_nights_62 : decode cX7_nights 62 = .ok (.iload 5, 2) := by decide +kernel
theorem dX7_nights_64 : decode cX7_nights 64 = .ok (.invokestatic 52, 3) := by decide +kernel
theorem dX7_nights_67 : decode cX7_nights 67 = .ok (.iconst 2, 1) := by decide +kernel
theorem dX7_nights_68 : decode cX7_nights 68 = .ok (.iadd, 1) := by decide +kernel
theorem dX7_nights_69 : decode cX7_nights 69 = .ok (.iaload, 1) := by decide +kernel
theorem dX7_nights_70 : decode cX7_nights 70 = .ok (.goto 4, 3) := by decide +kernel
theorem dX7_nights_73 : decode cX7_nights 73 = .ok (.iconst 0, 1) := by decide +kernel
theorem dX7_nights_74 : decode cX7_nights 74 = .ok (.iadd, 1) := by decide +kernel
theorem dX7_nights_75 : decode cX7_nights 75 = .ok (.iastore, 1) := by decide +kernel
theorem dX7_nights_76 : decode cX7_nights 76 = .ok (.iinc 5 1, 3) := by decide +kernel
theorem dX7_nights_79 : decode cX7_nights 79 = .ok (.goto (-55), 3) := by decide +kernel
theorem dX7_nights_82 : decode cX7_nights 82 = .ok (.iload_n 2, 1) := by decide +kernel
theorem dX7_nights_83 : decode cX7_nights 83 = .ok (.aload_n 0, 1) := by decide +kernel
theorem dX7_nights_84 : decode cX7_nights 84 = .ok (.iload 4, 2) := by decide +kernel
theorem dX7_nights_86 : decode cX7_nights 86 = .ok (.invokevirtual 107, 3) := by decide +kernel
theorem dX7_nights_89 : decode cX7_nights 89 = .ok (.iadd, 1) := by decide +kernel
theorem dX7_nights_90 : decode cX7_nights 90 = .ok (.istore_n 2, 1) := by decide +kernel
theorem dX7_nights_91 : decode cX7_nights 91 = .ok (.aload_n 0, 1) := by decide +kernel
theorem dX7_nights_92 : decode cX7_nights 92 = .ok (.getfield 7, 3) := by decide +kernel
theorem dX7_nights_95 : decode cX7_nights 95 = .ok (.iconst 2, 1) := by decide +kernel
theorem dX7_nights_96 : decode cX7_nights 96 = .ok (.dup2, 1) := by decide +kernel
theorem dX7_nights_97 : decode cX7_nights 97 = .ok (.iaload, 1) := by decide +kernel
theorem dX7_nights_98 : decode cX7_nights 98 = .ok (.iconst 1, 1) := by decide +kernel
theorem dX7_nights_99 : decode cX7_nights 99 = .ok (.iadd, 1) := by decide +kernel
theorem dX7_nights_100 : decode cX7_nights 100 = .ok (.iastore, 1) := by decide +kernel
theorem dX7_nights_101 : decode cX7_nights 101 = .ok (.iinc 3 1, 3) := by decide +kernel
theorem dX7_nights_104 : decode cX7_nights 104 = .ok (.goto (-100), 3) := by decide +kernel
theorem dX7_nights_107 : decode cX7_nights 107 = .ok (.aload_n 0, 1) := by decide +kernel
theorem dX7_nights_108 : decode cX7_nights 108 = .ok (.getfield 7, 3) := by decide +kernel
theorem dX7_nights_111 : decode cX7_nights 111 = .ok (.iconst 3, 1) := by decide +kernel
theorem dX7_nights_112 : decode cX7_nights 112 = .ok (.dup2, 1) := by decide +kernel
theorem dX7_nights_113 : decode cX7_nights 113 = .ok (.iaload, 1) := by decide +kernel
theorem dX7_nights_114 : decode cX7_nights 114 = .ok (.iload_n 2, 1) := by decide +kernel
theorem dX7_nights_115 : decode cX7_nights 115 = .ok (.iadd, 1) := by decide +kernel
theorem dX7_nights_116 : decode cX7_nights 116 = .ok (.iastore, 1) := by decide +kernel
theorem dX7_nights_117 : decode cX7_nights 117 = .ok (.iload_n 2, 1) := by decide +kernel
theorem dX7_nights_118 : decode cX7_nights 118 = .ok (.ireturn, 1) := by decide +kernel
theorem dX7_pass_0 : decode cX7_pass 0 = .ok (.aload_n 0, 1) := by decide +kernel
theorem dX7_pass_1 : decode cX7_pass 1 = .ok (.iload_n 1, 1) := by decide +kernel
theorem dX7_pass_2 : decode cX7_pass 2 = .ok (.iconst 1, 1) := by decide +kernel
theorem dX7_pass_3 : decode cX7_pass 3 = .ok (.bipush 30, 2) := by decide +kernel
theorem dX7_pass_5 : decode cX7_pass 5 = .ok (.invokestatic 42, 3) := by decide +kernel
theorem dX7_pass_8 : decode cX7_pass 8 = .ok (.iconst 1, 1) := by decide +kernel
theorem dX7_pass_9 : decode cX7_pass 9 = .ok (.iconst 1, 1) := by decide +kernel
theorem dX7_pass_10 : decode cX7_pass 10 = .ok (.invokevirtual 69, 3) := by decide +kernel
theorem dX7_pass_13 : decode cX7_pass 13 = .ok (.ifCond .ne 5, 3) := by decide +kernel
theorem dX7_pass_16 : decode cX7_pass 16 = .ok (.iconst 0, 1) := by decide +kernel
theorem dX7_pass_17 : decode cX7_pass 17 = .ok (.ireturn, 1) := by decide +kernel
theorem dX7_pass_18 : decode cX7_pass 18 = .ok (.aload_n 0, 1) := by decide +kernel
theorem dX7_pass_19 : decode cX7_pass 19 = .ok (.invokevirtual 73, 3) := by decide +kernel
theorem dX7_pass_22 : decode cX7_pass 22 = .ok (.aload_n 0, 1) := by decide +kernel
theorem dX7_pass_23 : decode cX7_pass 23 = .ok (.iload_n 1, 1) := by decide +kernel
theorem dX7_pass_24 : decode cX7_pass 24 = .ok (.invokevirtual 110, 3) := by decide +kernel
theorem dX7_pass_27 : decode cX7_pass 27 = .ok (.ireturn, 1) := by decide +kernel
theorem dX7_append_0 : decode cX7_append 0 = .ok (.aload_n 0, 1) := by decide +kernel
theorem dX7_append_1 : decode cX7_append 1 = .ok (.iload_n 1, 1) := by decide +kernel
theorem dX7_append_2 : decode cX7_append 2 = .ok (.bipush 33, 2) := by decide +kernel
theorem dX7_append_4 : decode cX7_append 4 = .ok (.bipush 126, 2) := by decide +kernel
theorem dX7_append_6 : decode cX7_append 6 = .ok (.invokestatic 42, 3) := by decide +kernel
theorem dX7_append_9 : decode cX7_append 9 = .ok (.aload_n 0, 1) := by decide +kernel
theorem dX7_append_10 : decode cX7_append 10 = .ok (.getfield 113, 3) := by decide +kernel
theorem dX7_append_13 : decode cX7_append 13 = .ok (.bipush 60, 2) := by decide +kernel
theorem dX7_append_15 : decode cX7_append 15 = .ok (.if_icmp .ge 7, 3) := by decide +kernel
theorem dX7_append_18 : decode cX7_append 18 = .ok (.iconst 1, 1) := by decide +kernel
theorem dX7_append_19 : decode cX7_append 19 = .ok (.goto 4, 3) := by decide +kernel
theorem dX7_append_22 : decode cX7_append 22 = .ok (.iconst 0, 1) := by decide +kernel
theorem dX7_append_23 : decode cX7_append 23 = .ok (.iconst 1, 1) := by decide +kernel
theorem dX7_append_24 : decode cX7_append 24 = .ok (.invokevirtual 69, 3) := by decide +kernel
theorem dX7_append_27 : decode cX7_append 27 = .ok (.ifCond .ne 5, 3) := by decide +kernel
theorem dX7_append_30 : decode cX7_append 30 = .ok (.iconst 0, 1) := by decide +kernel
theorem dX7_append_31 : decode cX7_append 31 = .ok (.ireturn, 1) := by decide +kernel
theorem dX7_append_32 : decode cX7_append 32 = .ok (.aload_n 0, 1) := by decide +kernel
theorem dX7_append_33 : decode cX7_append 33 = .ok (.getfield 13, 3) := by decide +kernel
theorem dX7_append_36 : decode cX7_append 36 = .ok (.aload_n 0, 1) := by decide +kernel
theorem dX7_append_37 : decode cX7_append 37 = .ok (.getfield 113, 3) := by decide +kernel
theorem dX7_append_40 : decode cX7_append 40 = .ok (.iload_n 1, 1) := by decide +kernel
theorem dX7_append_41 : decode cX7_append 41 = .ok (.i2c, 1) := by decide +kernel
theorem dX7_append_42 : decode cX7_append 42 = .ok (.castore, 1) := by decide +kernel
theorem dX7_append_43 : decode cX7_append 43 = .ok (.aload_n 0, 1) := by decide +kernel
theorem dX7_append_44 : decode cX7_append 44 = .ok (.dup, 1) := by decide +kernel
theorem dX7_append_45 : decode cX7_append 45 = .ok (.getfield 113, 3) := by decide +kernel
theorem dX7_append_48 : decode cX7_append 48 = .ok (.iconst 1, 1) := by decide +kernel
theorem dX7_append_49 : decode cX7_append 49 = .ok (.iadd, 1) := by decide +kernel
theorem dX7_append_50 : decode cX7_append 50 = .ok (.putfield 113, 3) := by decide +kernel
theorem dX7_append_53 : decode cX7_append 53 = .ok (.aload_n 0, 1) := by decide +kernel
theorem dX7_append_54 : decode cX7_append 54 = .ok (.getfield 113, 3) := by decide +kernel
theorem dX7_append_57 : decode cX7_append 57 = .ok (.ireturn, 1) := by decide +kernel
theorem dX7_clearBuffer_0 : decode cX7_clearBuffer 0 = .ok (.aload_n 0, 1) := by decide +kernel
theorem dX7_clearBuffer_1 : decode cX7_clearBuffer 1 = .ok (.iconst 0, 1) := by decide +kernel
theorem dX7_clearBuffer_2 : decode cX7_clearBuffer 2 = .ok (.putfield 31, 3) := by decide +kernel
theorem dX7_clearBuffer_5 : decode cX7_clearBuffer 5 = .ok (.aload_n 0, 1) := by decide +kernel
theorem dX7_clearBuffer_6 : decode cX7_clearBuffer 6 = .ok (.getfield 113, 3) := by decide +kernel
theorem dX7_clearBuffer_9 : decode cX7_clearBuffer 9 = .ok (.istore_n 1, 1) := by decide +kernel
theorem dX7_clearBuffer_10 : decode cX7_clearBuffer 10 = .ok (.aload_n 0, 1) := by decide +kernel
theorem dX7_clearBuffer_11 : decode cX7_clearBuffer 11 = .ok (.iconst 0, 1) := by decide +kernel
theorem dX7_clearBuffer_12 : decode cX7_clearBuffer 12 = .ok (.putfield 113, 3) := by decide +kernel
theorem dX7_clearBuffer_15 : decode cX7_clearBuffer 15 = .ok (.iload_n 1, 1) := by decide +kernel
theorem dX7_clearBuffer_16 : decode cX7_clearBuffer 16 = .ok (.ireturn, 1) := by decide +kernel
theorem dX7_isAt_0 : decode cX7_isAt 0 = .ok (.aload_n 0, 1) := by decide +kernel
theorem dX7_isAt_1 : decode cX7_isAt 1 = .ok (.getfield 116, 3) := by decide +kernel
theorem dX7_isAt_4 : decode cX7_isAt 4 = .ok (.aload_n 0, 1) := by decide +kernel
theorem dX7_isAt_5 : decode cX7_isAt 5 = .ok (.getfield 113, 3) := by decide +kernel
theorem dX7_isAt_8 : decode cX7_isAt 8 = .ok (.if_icmp .ge 24, 3) := by decide +kernel
theorem dX7_isAt_11 : decode cX7_isAt 11 = .ok (.aload_n 0, 1) := by decide +kernel
theorem dX7_isAt_12 : decode cX7_isAt 12 = .ok (.getfield 13, 3) := by decide +kernel
theorem dX7_isAt_15 : decode cX7_isAt 15 = .ok (.aload_n 0, 1) := by decide +kernel
theorem dX7_isAt_16 : decode cX7_isAt 16 = .ok (.getfield 116, 3) := by decide +kernel
theorem dX7_isAt_19 : decode cX7_isAt 19 = .ok (.caload, 1) := by decide +kernel
theorem dX7_isAt_20 : decode cX7_isAt 20 = .ok (.iload_n 1, 1) := by decide +kernel
theorem dX7_isAt_21 : decode cX7_isAt 21 = .ok (.iload_n 2, 1) := by decide +kernel
theorem dX7_isAt_22 : decode cX7_isAt 22 = .ok (.invokestatic 42, 3) := by decide +kernel
theorem dX7_isAt_25 : decode cX7_isAt 25 = .ok (.ifCond .eq 7, 3) := by decide +kernel
theorem dX7_isAt_28 : decode cX7_isAt 28 = .ok (.iconst 1, 1) := by decide +kernel
theorem dX7_isAt_29 : decode cX7_isAt 29 = .ok (.goto 4, 3) := by decide +kernel
theorem dX7_isAt_32 : decode cX7_isAt 32 = .ok (.iconst 0, 1) := by decide +kernel
theorem dX7_isAt_33 : decode cX7_isAt 33 = .ok (.ireturn, 1) := by decide +kernel
theorem dX7_reads_0 : decode cX7_reads 0 = .ok (.aload_n 0, 1) := by decide +kernel
theorem dX7_reads_1 : decode cX7_reads 1 = .ok (.iload_n 1, 1) := by decide +kernel
theorem dX7_reads_2 : decode cX7_reads 2 = .ok (.iload_n 2, 1) := by decide +kernel
theorem dX7_reads_3 : decode cX7_reads 3 = .ok (.invokevirtual 118, 3) := by decide +kernel
theorem dX7_reads_6 : decode cX7_reads 6 = .ok (.istore_n 3, 1) := by decide +kernel
theorem dX7_reads_7 : decode cX7_reads 7 = .ok (.aload_n 0, 1) := by decide +kernel
theorem dX7_reads_8 : decode cX7_reads 8 = .ok (.dup, 1) := by decide +kernel
theorem dX7_reads_9 : decode cX7_reads 9 = .ok (.getfield 116, 3) := by decide +kernel
theorem dX7_reads_12 : decode cX7_reads 12 = .ok (.iload_n 3, 1) := by decide +kernel
theorem dX7_reads_13 : decode cX7_reads 13 = .ok (.ifCond .eq 7, 3) := by decide +kernel
theorem dX7_reads_16 : decode cX7_reads 16 = .ok (.iconst 1, 1) := by decide +kernel
theorem dX7_reads_17 : decode cX7_reads 17 = .ok (.goto 4, 3) := by decide +kernel
theorem dX7_reads_20 : decode cX7_reads 20 = .ok (.iconst 0, 1) := by decide +kernel
theorem dX7_reads_21 : decode cX7_reads 21 = .ok (.iadd, 1) := by decide +kernel
theorem dX7_reads_22 : decode cX7_reads 22 = .ok (.putfield 116, 3) := by decide +kernel
theorem dX7_reads_25 : decode cX7_reads 25 = .ok (.iload_n 3, 1) := by decide +kernel
theorem dX7_reads_26 : decode cX7_reads 26 = .ok (.ifCond .eq 19, 3) := by decide +kernel
theorem dX7_reads_29 : decode cX7_reads 29 = .ok (.aload_n 0, 1) := by decide +kernel
theorem dX7_reads_30 : decode cX7_reads 30 = .ok (.getfield 13, 3) := by decide +kernel
theorem dX7_reads_33 : decode cX7_reads 33 = .ok (.aload_n 0, 1) := by decide +kernel
theorem dX7_reads_34 : decode cX7_reads 34 = .ok (.getfield 116, 3) := by decide +kernel
theorem dX7_reads_37 : decode cX7_reads 37 = .ok (.iconst 1, 1) := by decide +kernel
theorem dX7_reads_38 : decode cX7_reads 38 = .ok (.isub, 1) := by decide +kernel
theorem dX7_reads_39 : decode cX7_reads 39 = .ok (.caload, 1) := by decide +kernel
theorem dX7_reads_40 : decode cX7_reads 40 = .ok (.iload_n 1, 1) := by decide +kernel
theorem dX7_reads_41 : decode cX7_reads 41 = .ok (.isub, 1) := by decide +kernel
theorem dX7_reads_42 : decode cX7_reads 42 = .ok (.goto 4, 3) := by decide +kernel
theorem dX7_reads_45 : decode cX7_reads 45 = .ok (.iconst (-1), 1) := by decide +kernel
theorem dX7_reads_46 : decode cX7_reads 46 = .ok (.ireturn, 1) := by decide +kernel
theorem dX7_signs_0 : decode cX7_signs 0 = .ok (.aload_n 0, 1) := by decide +kernel
theorem dX7_signs_1 : decode cX7_signs 1 = .ok (.iconst 0, 1) := by decide +kernel
theorem dX7_signs_2 : decode cX7_signs 2 = .ok (.putfield 121, 3) := by decide +kernel
theorem dX7_signs_5 : decode cX7_signs 5 = .ok (.aload_n 0, 1) := by decide +kernel
theorem dX7_signs_6 : decode cX7_signs 6 = .ok (.iconst 0, 1) := by decide +kernel
theorem dX7_signs_7 : decode cX7_signs 7 = .ok (.putfield 124, 3) := by decide +kernel
theorem dX7_signs_10 : decode cX7_signs 10 = .ok (.iconst 1, 1) := by decide +kernel
theorem dX7_signs_11 : decode cX7_signs 11 = .ok (.istore_n 1, 1) := by decide +kernel
theorem dX7_signs_12 : decode cX7_signs 12 = .ok (.iconst 1, 1) := by decide +kernel
theorem dX7_signs_13 : decode cX7_signs 13 = .ok (.istore_n 2, 1) := by decide +kernel
theorem dX7_signs_14 : decode cX7_signs 14 = .ok (.iload_n 1, 1) := by decide +kernel
theorem dX7_signs_15 : decode cX7_signs 15 = .ok (.ifCond .eq 193, 3) := by decide +kernel
theorem dX7_signs_18 : decode cX7_signs 18 = .ok (.aload_n 0, 1) := by decide +kernel
theorem dX7_signs_19 : decode cX7_signs 19 = .ok (.getfield 121, 3) := by decide +kernel
theorem dX7_signs_22 : decode cX7_signs 22 = .ok (.aload_n 0, 1) := by decide +kernel
theorem dX7_signs_23 : decode cX7_signs 23 = .ok (.getfield 124, 3) := by decide +kernel
theorem dX7_signs_26 : decode cX7_signs 26 = .ok (.ior, 1) := by decide +kernel
theorem dX7_signs_27 : decode cX7_signs 27 = .ok (.bipush 63, 2) := by decide +kernel
theorem dX7_signs_29 : decode cX7_signs 29 = .ok (.if_icmp .eq 18, 3) := by decide +kernel
theorem dX7_signs_32 : decode cX7_signs 32 = .ok (.aload_n 0, 1) := by decide +kernel
theorem dX7_signs_33 : decode cX7_signs 33 = .ok (.bipush 33, 2) := by decide +kernel
theorem dX7_signs_35 : decode cX7_signs 35 = .ok (.bipush 33, 2) := by decide +kernel
theorem dX7_signs_37 : decode cX7_signs 37 = .ok (.invokevirtual 118, 3) := by decide +kernel
theorem dX7_signs_40 : decode cX7_signs 40 = .ok (.ifCond .eq 7, 3) := by decide +kernel
theorem dX7_signs_43 : decode cX7_signs 43 = .ok (.iconst 1, 1) := by decide +kernel
theorem dX7_signs_44 : decode cX7_signs 44 = .ok (.goto 4, 3) := by decide +kernel
theorem dX7_signs_47 : decode cX7_signs 47 = .ok (.iconst 0, 1) := by decide +kernel
theorem dX7_signs_48 : decode cX7_signs 48 = .ok (.istore_n 3, 1) := by decide +kernel
theorem dX7_signs_49 : decode cX7_signs 49 = .ok (.aload_n 0, 1) := by decide +kernel
theorem dX7_signs_50 : decode cX7_signs 50 = .ok (.dup, 1) := by decide +kernel
theorem dX7_signs_51 : decode cX7_signs 51 = .ok (.getfield 116, 3) := by decide +kernel
theorem dX7_signs_54 : decode cX7_signs 54 = .ok (.iload_n 3, 1) := by decide +kernel
theorem dX7_signs_55 : decode cX7_signs 55 = .ok (.ifCond .eq 7, 3) := by decide +kernel
theorem dX7_signs_58 : decode cX7_signs 58 = .ok (.iconst 1, 1) := by decide +kernel
theorem dX7_signs_59 : decode cX7_signs 59 = .ok (.goto 4, 3) := by decide +kernel
theorem dX7_signs_62 : decode cX7_signs 62 = .ok (.iconst 0, 1) := by decide +kernel
theorem dX7_signs_63 : decode cX7_signs 63 = .ok (.iadd, 1) := by decide +kernel
theorem dX7_signs_64 : decode cX7_signs 64 = .ok (.putfield 116, 3) := by decide +kernel
theorem dX7_signs_67 : decode cX7_signs 67 = .ok (.aload_n 0, 1) := by decide +kernel
theorem dX7_signs_68 : decode cX7_signs 68 = .ok (.bipush 97, 2) := by decide +kernel
theorem dX7_signs_70 : decode cX7_signs 70 = .ok (.bipush 102, 2) := by decide +kernel
theorem dX7_signs_72 : decode cX7_signs 72 = .ok (.invokevirtual 118, 3) := by decide +kernel
theorem dX7_signs_75 : decode cX7_signs 75 = .ok (.ifCond .eq 34, 3) := by decide +kernel
theorem dX7_signs_78 : decode cX7_signs 78 = .ok (.aload_n 0, 1) := by decide +kernel
theorem dX7_signs_79 : decode cX7_signs 79 = .ok (.getfield 121, 3) := by decide +kernel
theorem dX7_signs_82 : decode cX7_signs 82 = .ok (.aload_n 0, 1) := by decide +kernel
theorem dX7_signs_83 : decode cX7_signs 83 = .ok (.getfield 124, 3) := by decide +kernel
theorem dX7_signs_86 : decode cX7_signs 86 = .ok (.ior, 1) := by decide +kernel
theorem dX7_signs_87 : decode cX7_signs 87 = .ok (.aload_n 0, 1) := by decide +kernel
theorem dX7_signs_88 : decode cX7_signs 88 = .ok (.getfield 13, 3) := by decide +kernel
theorem dX7_signs_91 : decode cX7_signs 91 = .ok (.aload_n 0, 1) := by decide +kernel
theorem dX7_signs_92 : decode cX7_signs 92 = .ok (.getfield 116, 3) := by decide +kernel
theorem dX7_signs_95 : decode cX7_signs 95 = .ok (.caload, 1) := by decide +kernel
theorem dX7_signs_96 : decode cX7_signs 96 = .ok (.bipush 97, 2) := by decide +kernel
theorem dX7_signs_98 : decode cX7_signs 98 = .ok (.isub, 1) := by decide +kernel
theorem dX7_signs_99 : decode cX7_signs 99 = .ok (.invokestatic 46, 3) := by decide +kernel
theorem dX7_signs_102 : decode cX7_signs 102 = .ok (.ifCond .ne 7, 3) := by decide +kernel
theorem dX7_signs_105 : decode cX7_signs 105 = .ok (.iconst 1, 1) := by decide +kernel
theorem dX7_signs_106 : decode cX7_signs 106 = .ok (.goto 4, 3) := by decide +kernel
theorem dX7_signs_109 : decode cX7_signs 109 = .ok (.iconst 0, 1) := by decide +kernel
theorem dX7_signs_110 : decode cX7_signs 110 = .ok (.istore_n 1, 1) := by decide +kernel
theorem dX7_signs_111 : decode cX7_signs 111 = .ok (.iload_n 1, 1) := by decide +kernel
theorem dX7_signs_112 : decode cX7_signs 112 = .ok (.ifCond .eq 20, 3) := by decide +kernel
theorem dX7_signs_115 : decode cX7_signs 115 = .ok (.iconst 1, 1) := by decide +kernel
theorem dX7_signs_116 : decode cX7_signs 116 = .ok (.aload_n 0, 1) := by decide +kernel
theorem dX7_signs_117 : decode cX7_signs 117 = .ok (.getfield 13, 3) := by decide +kernel
theorem dX7_signs_120 : decode cX7_signs 120 = .ok (.aload_n 0, 1) := by decide +kernel
theorem dX7_signs_121 : decode cX7_signs 121 = .ok (.getfield 116, 3) := by decide +kernel
theorem dX7_signs_124 : decode cX7_signs 124 = .ok (.caload, 1) := by decide +kernel
theorem dX7_signs_125 : decode cX7_signs 125 = .ok (.bipush 97, 2) := by decide +kernel
theorem dX7_signs_127 : decode cX7_signs 127 = .ok (.isub, 1) := by decide +kernel
theorem dX7_signs_128 : decode cX7_signs 128 = .ok (.ishl, 1) := by decide +kernel
theorem dX7_signs_129 : decode cX7_signs 129 = .ok (.goto 4, 3) := by decide +kernel
theorem dX7_signs_132 : decode cX7_signs 132 = .ok (.iconst 0, 1) := by decide +kernel
theorem dX7_signs_133 : decode cX7_signs 133 = .ok (.istore 4, 2) := by decide +kernel
theorem dX7_signs_135 : decode cX7_signs 135 = .ok (.aload_n 0, 1) := by decide +kernel
theorem dX7_signs_136 : decode cX7_signs 136 = .ok (.dup, 1) := by decide +kernel
theorem dX7_signs_137 : decode cX7_signs 137 = .ok (.getfield 116, 3) := by decide +kernel
theorem dX7_signs_140 : decode cX7_signs 140 = .ok (.iload_n 1, 1) := by decide +kernel
theorem dX7_signs_141 : decode cX7_signs 141 = .ok (.ifCond .eq 7, 3) := by decide +kernel
theorem dX7_signs_144 : decode cX7_signs 144 = .ok (.iconst 1, 1) := by decide +kernel
theorem dX7_signs_145 : decode cX7_signs 145 = .ok (.goto 4, 3) := by decide +kernel
theorem dX7_signs_148 : decode cX7_signs 148 = .ok (.iconst 0, 1) := by decide +kernel
theorem dX7_signs_149 : decode cX7_signs 149 = .ok (.iadd, 1) := by decide +kernel
theorem dX7_signs_150 : decode cX7_signs 150 = .ok (.putfield 116, 3) := by decide +kernel
theorem dX7_signs_153 : decode cX7_signs 153 = .ok (.aload_n 0, 1) := by decide +kernel
theorem dX7_signs_154 : decode cX7_signs 154 = .ok (.dup, 1) := by decide +kernel
theorem dX7_signs_155 : decode cX7_signs 155 = .ok (.getfield 121, 3) := by decide +kernel
theorem dX7_signs_158 : decode cX7_signs 158 = .ok (.iload_n 3, 1) := by decide +kernel
theorem dX7_signs_159 : decode cX7_signs 159 = .ok (.ifCond .eq 7, 3) := by decide +kernel
theorem dX7_signs_162 : decode cX7_signs 162 = .ok (.iconst 0, 1) := by decide +kernel
theorem dX7_signs_163 : decode cX7_signs 163 = .ok (.goto 5, 3) := by decide +kernel
theorem dX7_signs_166 : decode cX7_signs 166 = .ok (.iload 4, 2) := by decide +kernel
theorem dX7_signs_168 : decode cX7_signs 168 = .ok (.ior, 1) := by decide +kernel
theorem dX7_signs_169 : decode cX7_signs 169 = .ok (.putfield 121, 3) := by decide +kernel
theorem dX7_signs_172 : decode cX7_signs 172 = .ok (.aload_n 0, 1) := by decide +kernel
theorem dX7_signs_173 : decode cX7_signs 173 = .ok (.dup, 1) := by decide +kernel
theorem dX7_signs_174 : decode cX7_signs 174 = .ok (.getfield 124, 3) := by decide +kernel
theorem dX7_signs_177 : decode cX7_signs 177 = .ok (.iload_n 3, 1) := by decide +kernel
theorem dX7_signs_178 : decode cX7_signs 178 = .ok (.ifCond .eq 8, 3) := by decide +kernel
theorem dX7_signs_181 : decode cX7_signs 181 = .ok (.iload 4, 2) := by decide +kernel
theorem dX7_signs_183 : decode cX7_signs 183 = .ok (.goto 4, 3) := by decide +kernel
theorem dX7_signs_186 : decode cX7_signs 186 = .ok (.iconst 0, 1) := by decide +kernel
theorem dX7_signs_187 : decode cX7_signs 187 = .ok (.ior, 1) := by decide +kernel
theorem dX7_signs_188 : decode cX7_signs 188 = .ok (.putfield 124, 3) := by decide +kernel
theorem dX7_signs_191 : decode cX7_signs 191 = .ok (.iload_n 1, 1) := by decide +kernel
theorem dX7_signs_192 : decode cX7_signs 192 = .ok (.ifCond .ne 7, 3) := by decide +kernel
theorem dX7_signs_195 : decode cX7_signs 195 = .ok (.iload_n 3, 1) := by decide +kernel
theorem dX7_signs_196 : decode cX7_signs 196 = .ok (.ifCond .ne 7, 3) := by decide +kernel
theorem dX7_signs_199 : decode cX7_signs 199 = .ok (.iconst 1, 1) := by decide +kernel
theorem dX7_signs_200 : decode cX7_signs 200 = .ok (.goto 4, 3) := by decide +kernel
theorem dX7_signs_203 : decode cX7_signs 203 = .ok (.iconst 0, 1) := by decide +kernel
theorem dX7_signs_204 : decode cX7_signs 204 = .ok (.istore_n 2, 1) := by decide +kernel
theorem dX7_signs_205 : decode cX7_signs 205 = .ok (.goto (-191), 3) := by decide +kernel
theorem dX7_signs_208 : decode cX7_signs 208 = .ok (.iload_n 2, 1) := by decide +kernel
theorem dX7_signs_209 : decode cX7_signs 209 = .ok (.ifCond .eq 19, 3) := by decide +kernel
theorem dX7_signs_212 : decode cX7_signs 212 = .ok (.aload_n 0, 1) := by decide +kernel
theorem dX7_signs_213 : decode cX7_signs 213 = .ok (.getfield 121, 3) := by decide +kernel
theorem dX7_signs_216 : decode cX7_signs 216 = .ok (.aload_n 0, 1) := by decide +kernel
theorem dX7_signs_217 : decode cX7_signs 217 = .ok (.getfield 124, 3) := by decide +kernel
theorem dX7_signs_220 : decode cX7_signs 220 = .ok (.ior, 1) := by decide +kernel
theorem dX7_signs_221 : decode cX7_signs 221 = .ok (.ifCond .eq 7, 3) := by decide +kernel
theorem dX7_signs_224 : decode cX7_signs 224 = .ok (.iconst 1, 1) := by decide +kernel
theorem dX7_signs_225 : decode cX7_signs 225 = .ok (.goto 4, 3) := by decide +kernel
theorem dX7_signs_228 : decode cX7_signs 228 = .ok (.iconst 0, 1) := by decide +kernel
theorem dX7_signs_229 : decode cX7_signs 229 = .ok (.ireturn, 1) := by decide +kernel
theorem dX7_part_0 : decode cX7_part 0 = .ok (.aload_n 0, 1) := by decide +kernel
theorem dX7_part_1 : decode cX7_part 1 = .ok (.aload_n 0, 1) := by decide +kernel
theorem dX7_part_2 : decode cX7_part 2 = .ok (.getfield 116, 3) := by decide +kernel
theorem dX7_part_5 : decode cX7_part 5 = .ok (.aload_n 0, 1) := by decide +kernel
theorem dX7_part_6 : decode cX7_part 6 = .ok (.getfield 113, 3) := by decide +kernel
theorem dX7_part_9 : decode cX7_part 9 = .ok (.if_icmp .ge 15, 3) := by decide +kernel
theorem dX7_part_12 : decode cX7_part 12 = .ok (.aload_n 0, 1) := by decide +kernel
theorem dX7_part_13 : decode cX7_part 13 = .ok (.getfield 13, 3) := by decide +kernel
theorem dX7_part_16 : decode cX7_part 16 = .ok (.aload_n 0, 1) := by decide +kernel
theorem dX7_part_17 : decode cX7_part 17 = .ok (.getfield 116, 3) := by decide +kernel
theorem dX7_part_20 : decode cX7_part 20 = .ok (.caload, 1) := by decide +kernel
theorem dX7_part_21 : decode cX7_part 21 = .ok (.goto 5, 3) := by decide +kernel
theorem dX7_part_24 : decode cX7_part 24 = .ok (.bipush 32, 2) := by decide +kernel
theorem dX7_part_26 : decode cX7_part 26 = .ok (.putfield 127, 3) := by decide +kernel
theorem dX7_part_29 : decode cX7_part 29 = .ok (.aload_n 0, 1) := by decide +kernel
theorem dX7_part_30 : decode cX7_part 30 = .ok (.getfield 127, 3) := by decide +kernel
theorem dX7_part_33 : decode cX7_part 33 = .ok (.bipush 114, 2) := by decide +kernel
theorem dX7_part_35 : decode cX7_part 35 = .ok (.if_icmp .ne 47, 3) := by decide +kernel
theorem dX7_part_38 : decode cX7_part 38 = .ok (.aload_n 0, 1) := by decide +kernel
theorem dX7_part_39 : decode cX7_part 39 = .ok (.dup, 1) := by decide +kernel
theorem dX7_part_40 : decode cX7_part 40 = .ok (.getfield 116, 3) := by decide +kernel
theorem dX7_part_43 : decode cX7_part 43 = .ok (.iconst 1, 1) := by decide +kernel
theorem dX7_part_44 : decode cX7_part 44 = .ok (.iadd, 1) := by decide +kernel
theorem dX7_part_45 : decode cX7_part 45 = .ok (.putfield 116, 3) := by decide +kernel
theorem dX7_part_48 : decode cX7_part 48 = .ok (.aload_n 0, 1) := by decide +kernel
theorem dX7_part_49 : decode cX7_part 49 = .ok (.aload_n 0, 1) := by decide +kernel
theorem dX7_part_50 : decode cX7_part 50 = .ok (.bipush 49, 2) := by decide +kernel
theorem dX7_part_52 : decode cX7_part 52 = .ok (.bipush 57, 2) := by decide +kernel
theorem dX7_part_54 : decode cX7_part 54 = .ok (.invokevirtual 131, 3) := by decide +kernel
theorem dX7_part_57 : decode cX7_part 57 = .ok (.iconst 1, 1) := by decide +kernel
theorem dX7_part_58 : decode cX7_part 58 = .ok (.iadd, 1) := by decide +kernel
theorem dX7_part_59 : decode cX7_part 59 = .ok (.putfield 134, 3) := by decide +kernel
theorem dX7_part_62 : decode cX7_part 62 = .ok (.aload_n 0, 1) := by decide +kernel
theorem dX7_part_63 : decode cX7_part 63 = .ok (.getfield 134, 3) := by decide +kernel
theorem dX7_part_66 : decode cX7_part 66 = .ok (.ifCond .le 14, 3) := by decide +kernel
theorem dX7_part_69 : decode cX7_part 69 = .ok (.aload_n 0, 1) := by decide +kernel
theorem dX7_part_70 : decode cX7_part 70 = .ok (.invokevirtual 137, 3) := by decide +kernel
theorem dX7_part_73 : decode cX7_part 73 = .ok (.ifCond .eq 7, 3) := by decide +kernel
theorem dX7_part_76 : decode cX7_part 76 = .ok (.iconst 1, 1) := by decide +kernel
theorem dX7_part_77 : decode cX7_part 77 = .ok (.goto 4, 3) := by decide +kernel
theorem dX7_part_80 : decode cX7_part 80 = .ok (.iconst 0, 1) := by decide +kernel
theorem dX7_part_81 : decode cX7_part 81 = .ok (.ireturn, 1) := by decide +kernel
theorem dX7_part_82 : decode cX7_part 82 = .ok (.aload_n 0, 1) := by decide +kernel
theorem dX7_part_83 : decode cX7_part 83 = .ok (.getfield 127, 3) := by decide +kernel
theorem dX7_part_86 : decode cX7_part 86 = .ok (.bipush 99, 2) := by decide +kernel
theorem dX7_part_88 : decode cX7_part 88 = .ok (.if_icmp .eq 12, 3) := by decide +kernel
theorem dX7_part_91 : decode cX7_part 91 = .ok (.aload_n 0, 1) := by decide +kernel
theorem dX7_part_92 : decode cX7_part 92 = .ok (.getfield 127, 3) := by decide +kernel
theorem dX7_part_95 : decode cX7_part 95 = .ok (.bipush 103, 2) := by decide +kernel
theorem dX7_part_97 : decode cX7_part 97 = .ok (.if_icmp .ne 38, 3) := by decide +kernel
theorem dX7_part_100 : decode cX7_part 100 = .ok (.aload_n 0, 1) := by decide +kernel
theorem dX7_part_101 : decode cX7_part 101 = .ok (.dup, 1) := by decide +kernel
theorem dX7_part_102 : decode cX7_part 102 = .ok (.getfield 116, 3) := by decide +kernel
theorem dX7_part_105 : decode cX7_part 105 = .ok (.iconst 1, 1) := by decide +kernel
theorem dX7_part_106 : decode cX7_part 106 = .ok (.iadd, 1) := by decide +kernel
theorem dX7_part_107 : decode cX7_part 107 = .ok (.putfield 116, 3) := by decide +kernel
theorem dX7_part_110 : decode cX7_part 110 = .ok (.aload_n 0, 1) := by decide +kernel
theorem dX7_part_111 : decode cX7_part 111 = .ok (.aload_n 0, 1) := by decide +kernel
theorem dX7_part_112 : decode cX7_part 112 = .ok (.bipush 97, 2) := by decide +kernel
theorem dX7_part_114 : decode cX7_part 114 = .ok (.bipush 102, 2) := by decide +kernel
theorem dX7_part_116 : decode cX7_part 116 = .ok (.invokevirtual 131, 3) := by decide +kernel
theorem dX7_part_119 : decode cX7_part 119 = .ok (.putfield 134, 3) := by decide +kernel
theorem dX7_part_122 : decode cX7_part 122 = .ok (.aload_n 0, 1) := by decide +kernel
theorem dX7_part_123 : decode cX7_part 123 = .ok (.getfield 134, 3) := by decide +kernel
theorem dX7_part_126 : decode cX7_part 126 = .ok (.ifCond .lt 7, 3) := by decide +kernel
theorem dX7_part_129 : decode cX7_part 129 = .ok (.iconst 1, 1) := by decide +kernel
theorem dX7_part_130 : decode cX7_part 130 = .ok (.goto 4, 3) := by decide +kernel
theorem dX7_part_133 : decode cX7_part 133 = .ok (.iconst 0, 1) := by decide +kernel
theorem dX7_part_134 : decode cX7_part 134 = .ok (.ireturn, 1) := by decide +kernel
theorem dX7_part_135 : decode cX7_part 135 = .ok (.aload_n 0, 1) := by decide +kernel
theorem dX7_part_136 : decode cX7_part 136 = .ok (.getfield 127, 3) := by decide +kernel
theorem dX7_part_139 : decode cX7_part 139 = .ok (.bipush 110, 2) := by decide +kernel
theorem dX7_part_141 : decode cX7_part 141 = .ok (.if_icmp .ne 40, 3) := by decide +kernel
theorem dX7_part_144 : decode cX7_part 144 = .ok (.aload_n 0, 1) := by decide +kernel
theorem dX7_part_145 : decode cX7_part 145 = .ok (.dup, 1) := by decide +kernel
theorem dX7_part_146 : decode cX7_part 146 = .ok (.getfield 116, 3) := by decide +kernel
theorem dX7_part_149 : decode cX7_part 149 = .ok (.iconst 1, 1) := by decide +kernel
theorem dX7_part_150 : decode cX7_part 150 = .ok (.iadd, 1) := by decide +kernel
theorem dX7_part_151 : decode cX7_part 151 = .ok (.putfield 116, 3) := by decide +kernel
theorem dX7_part_154 : decode cX7_part 154 = .ok (.aload_n 0, 1) := by decide +kernel
theorem dX7_part_155 : decode cX7_part 155 = .ok (.aload_n 0, 1) := by decide +kernel
theorem dX7_part_156 : decode cX7_part 156 = .ok (.bipush 49, 2) := by decide +kernel
theorem dX7_part_158 : decode cX7_part 158 = .ok (.bipush 57, 2) := by decide +kernel
theorem dX7_part_160 : decode cX7_part 160 = .ok (.invokevirtual 131, 3) := by decide +kernel
theorem dX7_part_163 : decode cX7_part 163 = .ok (.iconst 1, 1) := by decide +kernel
theorem dX7_part_164 : decode cX7_part 164 = .ok (.iadd, 1) := by decide +kernel
theorem dX7_part_165 : decode cX7_part 165 = .ok (.putfield 134, 3) := by decide +kernel
theorem dX7_part_168 : decode cX7_part 168 = .ok (.aload_n 0, 1) := by decide +kernel
theorem dX7_part_169 : decode cX7_part 169 = .ok (.getfield 134, 3) := by decide +kernel
theorem dX7_part_172 : decode cX7_part 172 = .ok (.ifCond .le 7, 3) := by decide +kernel
theorem dX7_part_175 : decode cX7_part 175 = .ok (.iconst 1, 1) := by decide +kernel
theorem dX7_part_176 : decode cX7_part 176 = .ok (.goto 4, 3) := by decide +kernel
theorem dX7_part_179 : decode cX7_part 179 = .ok (.iconst 0, 1) := by decide +kernel
theorem dX7_part_180 : decode cX7_part 180 = .ok (.ireturn, 1) := by decide +kernel
theorem dX7_part_181 : decode cX7_part 181 = .ok (.aload_n 0, 1) := by decide +kernel
theorem dX7_part_182 : decode cX7_part 182 = .ok (.getfield 127, 3) := by decide +kernel
theorem dX7_part_185 : decode cX7_part 185 = .ok (.bipush 118, 2) := by decide +kernel
theorem dX7_part_187 : decode cX7_part 187 = .ok (.if_icmp .ne 61, 3) := by decide +kernel
theorem dX7_part_190 : decode cX7_part 190 = .ok (.aload_n 0, 1) := by decide +kernel
theorem dX7_part_191 : decode cX7_part 191 = .ok (.dup, 1) := by decide +kernel
theorem dX7_part_192 : decode cX7_part 192 = .ok (.getfield 116, 3) := by decide +kernel
theorem dX7_part_195 : decode cX7_part 195 = .ok (.iconst 1, 1) := by decide +kernel
theorem dX7_part_196 : decode cX7_part 196 = .ok (.iadd, 1) := by decide +kernel
theorem dX7_part_197 : decode cX7_part 197 = .ok (.putfield 116, 3) := by decide +kernel
theorem dX7_part_200 : decode cX7_part 200 = .ok (.aload_n 0, 1) := by decide +kernel
theorem dX7_part_201 : decode cX7_part 201 = .ok (.aload_n 0, 1) := by decide +kernel
theorem dX7_part_202 : decode cX7_part 202 = .ok (.bipush 48, 2) := by decide +kernel
theorem dX7_part_204 : decode cX7_part 204 = .ok (.bipush 57, 2) := by decide +kernel
theorem dX7_part_206 : decode cX7_part 206 = .ok (.invokevirtual 131, 3) := by decide +kernel
theorem dX7_part_209 : decode cX7_part 209 = .ok (.putfield 134, 3) := by decide +kernel
theorem dX7_part_212 : decode cX7_part 212 = .ok (.aload_n 0, 1) := by decide +kernel
theorem dX7_part_213 : decode cX7_part 213 = .ok (.aload_n 0, 1) := by decide +kernel
theorem dX7_part_214 : decode cX7_part 214 = .ok (.getfield 134, 3) := by decide +kernel
theorem dX7_part_217 : decode cX7_part 217 = .ok (.ifCond .ge 7, 3) := by decide +kernel
theorem dX7_part_220 : decode cX7_part 220 = .ok (.iconst (-1), 1) := by decide +kernel
theorem dX7_part_221 : decode cX7_part 221 = .ok (.goto 11, 3) := by decide +kernel
theorem dX7_part_224 : decode cX7_part 224 = .ok (.aload_n 0, 1) := by decide +kernel
theorem dX7_part_225 : decode cX7_part 225 = .ok (.bipush 48, 2) := by decide +kernel
theorem dX7_part_227 : decode cX7_part 227 = .ok (.bipush 57, 2) := by decide +kernel
theorem dX7_part_229 : decode cX7_part 229 = .ok (.invokevirtual 131, 3) := by decide +kernel
theorem dX7_part_232 : decode cX7_part 232 = .ok (.putfield 121, 3) := by decide +kernel
theorem dX7_part_235 : decode cX7_part 235 = .ok (.aload_n 0, 1) := by decide +kernel
theorem dX7_part_236 : decode cX7_part 236 = .ok (.getfield 121, 3) := by decide +kernel
theorem dX7_part_239 : decode cX7_part 239 = .ok (.ifCond .lt 7, 3) := by decide +kernel
theorem dX7_part_242 : decode cX7_part 242 = .ok (.iconst 1, 1) := by decide +kernel
theorem dX7_part_243 : decode cX7_part 243 = .ok (.goto 4, 3) := by decide +kernel
theorem dX7_part_246 : decode cX7_part 246 = .ok (.iconst 0, 1) := by decide +kernel
theorem dX7_part_247 : decode cX7_part 247 = .ok (.ireturn, 1) := by decide +kernel
theorem dX7_part_248 : decode cX7_part 248 = .ok (.iconst 0, 1) := by decide +kernel
theorem dX7_part_249 : decode cX7_part 249 = .ok (.ireturn, 1) := by decide +kernel
theorem dX7_isLog_0 : decode cX7_isLog 0 = .ok (.aload_n 0, 1) := by decide +kernel
theorem dX7_isLog_1 : decode cX7_isLog 1 = .ok (.iconst 0, 1) := by decide +kernel
theorem dX7_isLog_2 : decode cX7_isLog 2 = .ok (.putfield 116, 3) := by decide +kernel
theorem dX7_isLog_5 : decode cX7_isLog 5 = .ok (.iconst 1, 1) := by decide +kernel
theorem dX7_isLog_6 : decode cX7_isLog 6 = .ok (.istore_n 1, 1) := by decide +kernel
theorem dX7_isLog_7 : decode cX7_isLog 7 = .ok (.iconst 1, 1) := by decide +kernel
theorem dX7_isLog_8 : decode cX7_isLog 8 = .ok (.istore_n 2, 1) := by decide +kernel
theorem dX7_isLog_9 : decode cX7_isLog 9 = .ok (.iload_n 1, 1) := by decide +kernel
theorem dX7_isLog_10 : decode cX7_isLog 10 = .ok (.ifCond .eq 50, 3) := by decide +kernel
theorem dX7_isLog_13 : decode cX7_isLog 13 = .ok (.aload_n 0, 1) := by decide +kernel
theorem dX7_isLog_14 : decode cX7_isLog 14 = .ok (.invokevirtual 141, 3) := by decide +kernel
theorem dX7_isLog_17 : decode cX7_isLog 17 = .ok (.istore_n 2, 1) := by decide +kernel
theorem dX7_isLog_18 : decode cX7_isLog 18 = .ok (.iload_n 2, 1) := by decide +kernel
theorem dX7_isLog_19 : decode cX7_isLog 19 = .ok (.ifCond .eq 18, 3) := by decide +kernel
theorem dX7_isLog_22 : decode cX7_isLog 22 = .ok (.aload_n 0, 1) := by decide +kernel
theorem dX7_isLog_23 : decode cX7_isLog 23 = .ok (.bipush 59, 2) := by decide +kernel
theorem dX7_isLog_25 : decode cX7_isLog 25 = .ok (.bipush 59, 2) := by decide +kernel
theorem dX7_isLog_27 : decode cX7_isLog 27 = .ok (.invokevirtual 118, 3) := by decide +kernel
theorem dX7_isLog_30 : decode cX7_isLog 30 = .ok (.ifCond .eq 7, 3) := by decide +kernel
theorem dX7_isLog_33 : decode cX7_isLog 33 = .ok (.iconst 1, 1) := by decide +kernel
theorem dX7_isLog_34 : decode cX7_isLog 34 = .ok (.goto 4, 3) := by decide +kernel
theorem dX7_isLog_37 : decode cX7_isLog 37 = .ok (.iconst 0, 1) := by decide +kernel
theorem dX7_isLog_38 : decode cX7_isLog 38 = .ok (.istore_n 1, 1) := by decide +kernel
theorem dX7_isLog_39 : decode cX7_isLog 39 = .ok (.aload_n 0, 1) := by decide +kernel
theorem dX7_isLog_40 : decode cX7_isLog 40 = .ok (.dup, 1) := by decide +kernel
theorem dX7_isLog_41 : decode cX7_isLog 41 = .ok (.getfield 116, 3) := by decide +kernel
theorem dX7_isLog_44 : decode cX7_isLog 44 = .ok (.iload_n 1, 1) := by decide +kernel
theorem dX7_isLog_45 : decode cX7_isLog 45 = .ok (.ifCond .eq 7, 3) := by decide +kernel
theorem dX7_isLog_48 : decode cX7_isLog 48 = .ok (.iconst 1, 1) := by decide +kernel
theorem dX7_isLog_49 : decode cX7_isLog 49 = .ok (.goto 4, 3) := by decide +kernel
theorem dX7_isLog_52 : decode cX7_isLog 52 = .ok (.iconst 0, 1) := by decide +kernel
theorem dX7_isLog_53 : decode cX7_isLog 53 = .ok (.iadd, 1) := by decide +kernel
theorem dX7_isLog_54 : decode cX7_isLog 54 = .ok (.putfield 116, 3) := by decide +kernel
theorem dX7_isLog_57 : decode cX7_isLog 57 = .ok (.goto (-48), 3) := by decide +kernel
theorem dX7_isLog_60 : decode cX7_isLog 60 = .ok (.iload_n 2, 1) := by decide +kernel
theorem dX7_isLog_61 : decode cX7_isLog 61 = .ok (.ifCond .eq 18, 3) := by decide +kernel
theorem dX7_isLog_64 : decode cX7_isLog 64 = .ok (.aload_n 0, 1) := by decide +kernel
theorem dX7_isLog_65 : decode cX7_isLog 65 = .ok (.getfield 116, 3) := by decide +kernel
theorem dX7_isLog_68 : decode cX7_isLog 68 = .ok (.aload_n 0, 1) := by decide +kernel
theorem dX7_isLog_69 : decode cX7_isLog 69 = .ok (.getfield 113, 3) := by decide +kernel
theorem dX7_isLog_72 : decode cX7_isLog 72 = .ok (.if_icmp .ne 7, 3) := by decide +kernel
theorem dX7_isLog_75 : decode cX7_isLog 75 = .ok (.iconst 1, 1) := by decide +kernel
theorem dX7_isLog_76 : decode cX7_isLog 76 = .ok (.goto 4, 3) := by decide +kernel
theorem dX7_isLog_79 : decode cX7_isLog 79 = .ok (.iconst 0, 1) := by decide +kernel
theorem dX7_isLog_80 : decode cX7_isLog 80 = .ok (.ireturn, 1) := by decide +kernel
theorem dX7_firstError_0 : decode cX7_firstError 0 = .ok (.aload_n 0, 1) := by decide +kernel
theorem dX7_firstError_1 : decode cX7_firstError 1 = .ok (.iconst 0, 1) := by decide +kernel
theorem dX7_firstError_2 : decode cX7_firstError 2 = .ok (.putfield 31, 3) := by decide +kernel
theorem dX7_firstError_5 : decode cX7_firstError 5 = .ok (.aload_n 0, 1) := by decide +kernel
theorem dX7_firstError_6 : decode cX7_firstError 6 = .ok (.invokevirtual 144, 3) := by decide +kernel
theorem dX7_firstError_9 : decode cX7_firstError 9 = .ok (.istore_n 1, 1) := by decide +kernel
theorem dX7_firstError_10 : decode cX7_firstError 10 = .ok (.iload_n 1, 1) := by decide +kernel
theorem dX7_firstError_11 : decode cX7_firstError 11 = .ok (.ifCond .eq 10, 3) := by decide +kernel
theorem dX7_firstError_14 : decode cX7_firstError 14 = .ok (.aload_n 0, 1) := by decide +kernel
theorem dX7_firstError_15 : decode cX7_firstError 15 = .ok (.getfield 113, 3) := by decide +kernel
theorem dX7_firstError_18 : decode cX7_firstError 18 = .ok (.goto 7, 3) := by decide +kernel
theorem dX7_firstError_21 : decode cX7_firstError 21 = .ok (.aload_n 0, 1) := by decide +kernel
theorem dX7_firstError_22 : decode cX7_firstError 22 = .ok (.getfield 116, 3) := by decide +kernel
theorem dX7_firstError_25 : decode cX7_firstError 25 = .ok (.ireturn, 1) := by decide +kernel
theorem dX7_does_0 : decode cX7_does 0 = .ok (.aload_n 0, 1) := by decide +kernel
theorem dX7_does_1 : decode cX7_does 1 = .ok (.getfield 127, 3) := by decide +kernel
theorem dX7_does_4 : decode cX7_does 4 = .ok (.bipush 114, 2) := by decide +kernel
theorem dX7_does_6 : decode cX7_does 6 = .ok (.if_icmp .ne 43, 3) := by decide +kernel
theorem dX7_does_9 : decode cX7_does 9 = .ok (.aload_n 0, 1) := by decide +kernel
theorem dX7_does_10 : decode cX7_does 10 = .ok (.getfield 7, 3) := by decide +kernel
theorem dX7_does_13 : decode cX7_does 13 = .ok (.iconst 0, 1) := by decide +kernel
theorem dX7_does_14 : decode cX7_does 14 = .ok (.iaload, 1) := by decide +kernel
theorem dX7_does_15 : decode cX7_does 15 = .ok (.bipush 10, 2) := by decide +kernel
theorem dX7_does_17 : decode cX7_does 17 = .ok (.if_icmp .ge 7, 3) := by decide +kernel
theorem dX7_does_20 : decode cX7_does 20 = .ok (.iconst 1, 1) := by decide +kernel
theorem dX7_does_21 : decode cX7_does 21 = .ok (.goto 4, 3) := by decide +kernel
theorem dX7_does_24 : decode cX7_does 24 = .ok (.iconst 0, 1) := by decide +kernel
theorem dX7_does_25 : decode cX7_does 25 = .ok (.istore_n 1, 1) := by decide +kernel
theorem dX7_does_26 : decode cX7_does 26 = .ok (.iload_n 1, 1) := by decide +kernel
theorem dX7_does_27 : decode cX7_does 27 = .ok (.ifCond .eq 20, 3) := by decide +kernel
theorem dX7_does_30 : decode cX7_does 30 = .ok (.aload_n 0, 1) := by decide +kernel
theorem dX7_does_31 : decode cX7_does 31 = .ok (.aload_n 0, 1) := by decide +kernel
theorem dX7_does_32 : decode cX7_does 32 = .ok (.getfield 134, 3) := by decide +kernel
theorem dX7_does_35 : decode cX7_does 35 = .ok (.aload_n 0, 1) := by decide +kernel
theorem dX7_does_36 : decode cX7_does 36 = .ok (.getfield 121, 3) := by decide +kernel
theorem dX7_does_39 : decode cX7_does 39 = .ok (.aload_n 0, 1) := by decide +kernel
theorem dX7_does_40 : decode cX7_does 40 = .ok (.getfield 124, 3) := by decide +kernel
theorem dX7_does_43 : decode cX7_does 43 = .ok (.invokevirtual 76, 3) := by decide +kernel
theorem dX7_does_46 : decode cX7_does 46 = .ok (.pop, 1) := by decide +kernel
theorem dX7_does_47 : decode cX7_does 47 = .ok (.iload_n 1, 1) := by decide +kernel
theorem dX7_does_48 : decode cX7_does 48 = .ok (.ireturn, 1) := by decide +kernel
theorem dX7_does_49 : decode cX7_does 49 = .ok (.aload_n 0, 1) := by decide +kernel
theorem dX7_does_50 : decode cX7_does 50 = .ok (.getfield 127, 3) := by decide +kernel
theorem dX7_does_53 : decode cX7_does 53 = .ok (.bipush 99, 2) := by decide +kernel
theorem dX7_does_55 : decode cX7_does 55 = .ok (.if_icmp .eq 12, 3) := by decide +kernel
theorem dX7_does_58 : decode cX7_does 58 = .ok (.aload_n 0, 1) := by decide +kernel
theorem dX7_does_59 : decode cX7_does 59 = .ok (.getfield 127, 3) := by decide +kernel
theorem dX7_does_62 : decode cX7_does 62 = .ok (.bipush 103, 2) := by decide +kernel
theorem dX7_does_64 : decode cX7_does 64 = .ok (.if_icmp .ne 60, 3) := by decide +kernel
theorem dX7_does_67 : decode cX7_does 67 = .ok (.aload_n 0, 1) := by decide +kernel
theorem dX7_does_68 : decode cX7_does 68 = .ok (.aload_n 0, 1) := by decide +kernel
theorem dX7_does_69 : decode cX7_does 69 = .ok (.getfield 134, 3) := by decide +kernel
theorem dX7_does_72 : decode cX7_does 72 = .ok (.invokevirtual 91, 3) := by decide +kernel
theorem dX7_does_75 : decode cX7_does 75 = .ok (.aload_n 0, 1) := by decide +kernel
theorem dX7_does_76 : decode cX7_does 76 = .ok (.getfield 127, 3) := by decide +kernel
theorem dX7_does_79 : decode cX7_does 79 = .ok (.bipush 103, 2) := by decide +kernel
theorem dX7_does_81 : decode cX7_does 81 = .ok (.if_icmp .ne 7, 3) := by decide +kernel
theorem dX7_does_84 : decode cX7_does 84 = .ok (.iconst 1, 1) := by decide +kernel
theorem dX7_does_85 : decode cX7_does 85 = .ok (.goto 4, 3) := by decide +kernel
theorem dX7_does_88 : decode cX7_does 88 = .ok (.iconst 0, 1) := by decide +kernel
theorem dX7_does_89 : decode cX7_does 89 = .ok (.if_icmp .ne 18, 3) := by decide +kernel
theorem dX7_does_92 : decode cX7_does 92 = .ok (.aload_n 0, 1) := by decide +kernel
theorem dX7_does_93 : decode cX7_does 93 = .ok (.aload_n 0, 1) := by decide +kernel
theorem dX7_does_94 : decode cX7_does 94 = .ok (.getfield 134, 3) := by decide +kernel
theorem dX7_does_97 : decode cX7_does 97 = .ok (.invokevirtual 94, 3) := by decide +kernel
theorem dX7_does_100 : decode cX7_does 100 = .ok (.ifCond .ge 7, 3) := by decide +kernel
theorem dX7_does_103 : decode cX7_does 103 = .ok (.iconst 1, 1) := by decide +kernel
theorem dX7_does_104 : decode cX7_does 104 = .ok (.goto 4, 3) := by decide +kernel
theorem dX7_does_107 : decode cX7_does 107 = .ok (.iconst 0, 1) := by decide +kernel
theorem dX7_does_108 : decode cX7_does 108 = .ok (.istore_n 1, 1) := by decide +kernel
theorem dX7_does_109 : decode cX7_does 109 = .ok (.iload_n 1, 1) := by decide +kernel
theorem dX7_does_110 : decode cX7_does 110 = .ok (.ifCond .eq 12, 3) := by decide +kernel
theorem dX7_does_113 : decode cX7_does 113 = .ok (.aload_n 0, 1) := by decide +kernel
theorem dX7_does_114 : decode cX7_does 114 = .ok (.aload_n 0, 1) := by decide +kernel
theorem dX7_does_115 : decode cX7_does 115 = .ok (.getfield 134, 3) := by decide +kernel
theorem dX7_does_118 : decode cX7_does 118 = .ok (.invokevirtual 97, 3) := by decide +kernel
theorem dX7_does_121 : decode cX7_does 121 = .ok (.pop, 1) := by decide +kernel
theorem dX7_does_122 : decode cX7_does 122 = .ok (.iload_n 1, 1) := by decide +kernel
theorem dX7_does_123 : decode cX7_does 123 = .ok (.ireturn, 1) := by decide +kernel
theorem dX7_does_124 : decode cX7_does 124 = .ok (.aload_n 0, 1) := by decide +kernel
theorem dX7_does_125 : decode cX7_does 125 = .ok (.getfield 127, 3) := by decide +kernel
theorem dX7_does_128 : decode cX7_does 128 = .ok (.bipush 110, 2) := by decide +kernel
theorem dX7_does_130 : decode cX7_does 130 = .ok (.if_icmp .ne 14, 3) := by decide +kernel
theorem dX7_does_133 : decode cX7_does 133 = .ok (.aload_n 0, 1) := by decide +kernel
theorem dX7_does_134 : decode cX7_does 134 = .ok (.aload_n 0, 1) := by decide +kernel
theorem dX7_does_135 : decode cX7_does 135 = .ok (.getfield 134, 3) := by decide +kernel
theorem dX7_does_138 : decode cX7_does 138 = .ok (.invokevirtual 110, 3) := by decide +kernel
theorem dX7_does_141 : decode cX7_does 141 = .ok (.pop, 1) := by decide +kernel
theorem dX7_does_142 : decode cX7_does 142 = .ok (.iconst 1, 1) := by decide +kernel
theorem dX7_does_143 : decode cX7_does 143 = .ok (.ireturn, 1) := by decide +kernel
theorem dX7_does_144 : decode cX7_does 144 = .ok (.aload_n 0, 1) := by decide +kernel
theorem dX7_does_145 : decode cX7_does 145 = .ok (.aload_n 0, 1) := by decide +kernel
theorem dX7_does_146 : decode cX7_does 146 = .ok (.getfield 134, 3) := by decide +kernel
theorem dX7_does_149 : decode cX7_does 149 = .ok (.invokevirtual 80, 3) := by decide +kernel
theorem dX7_does_152 : decode cX7_does 152 = .ok (.istore_n 1, 1) := by decide +kernel
theorem dX7_does_153 : decode cX7_does 153 = .ok (.iload_n 1, 1) := by decide +kernel
theorem dX7_does_154 : decode cX7_does 154 = .ok (.ifCond .eq 16, 3) := by decide +kernel
theorem dX7_does_157 : decode cX7_does 157 = .ok (.aload_n 0, 1) := by decide +kernel
theorem dX7_does_158 : decode cX7_does 158 = .ok (.aload_n 0, 1) := by decide +kernel
theorem dX7_does_159 : decode cX7_does 159 = .ok (.getfield 134, 3) := by decide +kernel
theorem dX7_does_162 : decode cX7_does 162 = .ok (.aload_n 0, 1) := by decide +kernel
theorem dX7_does_163 : decode cX7_does 163 = .ok (.getfield 121, 3) := by decide +kernel
theorem dX7_does_166 : decode cX7_does 166 = .ok (.invokevirtual 84, 3) := by decide +kernel
theorem dX7_does_169 : decode cX7_does 169 = .ok (.pop, 1) := by decide +kernel
theorem dX7_does_170 : decode cX7_does 170 = .ok (.iload_n 1, 1) := by decide +kernel
theorem dX7_does_171 : decode cX7_does 171 = .ok (.ireturn, 1) := by decide +kernel
theorem dX7_runLog_0 : decode cX7_runLog 0 = .ok (.aload_n 0, 1) := by decide +kernel
theorem dX7_runLog_1 : decode cX7_runLog 1 = .ok (.aload_n 0, 1) := by decide +kernel
theorem dX7_runLog_2 : decode cX7_runLog 2 = .ok (.invokevirtual 144, 3) := by decide +kernel
theorem dX7_runLog_5 : decode cX7_runLog 5 = .ok (.iconst 1, 1) := by decide +kernel
theorem dX7_runLog_6 : decode cX7_runLog 6 = .ok (.iconst 1, 1) := by decide +kernel
theorem dX7_runLog_7 : decode cX7_runLog 7 = .ok (.invokevirtual 69, 3) := by decide +kernel
theorem dX7_runLog_10 : decode cX7_runLog 10 = .ok (.ifCond .ne 5, 3) := by decide +kernel
theorem dX7_runLog_13 : decode cX7_runLog 13 = .ok (.iconst 0, 1) := by decide +kernel
theorem dX7_runLog_14 : decode cX7_runLog 14 = .ok (.ireturn, 1) := by decide +kernel
theorem dX7_runLog_15 : decode cX7_runLog 15 = .ok (.aload_n 0, 1) := by decide +kernel
theorem dX7_runLog_16 : decode cX7_runLog 16 = .ok (.invokevirtual 73, 3) := by decide +kernel
theorem dX7_runLog_19 : decode cX7_runLog 19 = .ok (.iconst 0, 1) := by decide +kernel
theorem dX7_runLog_20 : decode cX7_runLog 20 = .ok (.istore_n 1, 1) := by decide +kernel
theorem dX7_runLog_21 : decode cX7_runLog 21 = .ok (.iconst 1, 1) := by decide +kernel
theorem dX7_runLog_22 : decode cX7_runLog 22 = .ok (.istore_n 2, 1) := by decide +kernel
theorem dX7_runLog_23 : decode cX7_runLog 23 = .ok (.aload_n 0, 1) := by decide +kernel
theorem dX7_runLog_24 : decode cX7_runLog 24 = .ok (.iconst 0, 1) := by decide +kernel
theorem dX7_runLog_25 : decode cX7_runLog 25 = .ok (.putfield 116, 3) := by decide +kernel
theorem dX7_runLog_28 : decode cX7_runLog 28 = .ok (.iload_n 2, 1) := by decide +kernel
theorem dX7_runLog_29 : decode cX7_runLog 29 = .ok (.ifCond .eq 49, 3) := by decide +kernel
theorem dX7_runLog_32 : decode cX7_runLog 32 = .ok (.aload_n 0, 1) := by decide +kernel
theorem dX7_runLog_33 : decode cX7_runLog 33 = .ok (.getfield 116, 3) := by decide +kernel
theorem dX7_runLog_36 : decode cX7_runLog 36 = .ok (.aload_n 0, 1) := by decide +kernel
theorem dX7_runLog_37 : decode cX7_runLog 37 = .ok (.getfield 113, 3) := by decide +kernel
theorem dX7_runLog_40 : decode cX7_runLog 40 = .ok (.if_icmp .ge 38, 3) := by decide +kernel
theorem dX7_runLog_43 : decode cX7_runLog 43 = .ok (.aload_n 0, 1) := by decide +kernel
theorem dX7_runLog_44 : decode cX7_runLog 44 = .ok (.invokevirtual 141, 3) := by decide +kernel
theorem dX7_runLog_47 : decode cX7_runLog 47 = .ok (.pop, 1) := by decide +kernel
theorem dX7_runLog_48 : decode cX7_runLog 48 = .ok (.aload_n 0, 1) := by decide +kernel
theorem dX7_runLog_49 : decode cX7_runLog 49 = .ok (.invokevirtual 147, 3) := by decide +kernel
theorem dX7_runLog_52 : decode cX7_runLog 52 = .ok (.istore_n 2, 1) := by decide +kernel
theorem dX7_runLog_53 : decode cX7_runLog 53 = .ok (.iload_n 1, 1) := by decide +kernel
theorem dX7_runLog_54 : decode cX7_runLog 54 = .ok (.iload_n 2, 1) := by decide +kernel
theorem dX7_runLog_55 : decode cX7_runLog 55 = .ok (.ifCond .eq 7, 3) := by decide +kernel
theorem dX7_runLog_58 : decode cX7_runLog 58 = .ok (.iconst 1, 1) := by decide +kernel
theorem dX7_runLog_59 : decode cX7_runLog 59 = .ok (.goto 4, 3) := by decide +kernel
theorem dX7_runLog_62 : decode cX7_runLog 62 = .ok (.iconst 0, 1) := by decide +kernel
theorem dX7_runLog_63 : decode cX7_runLog 63 = .ok (.iadd, 1) := by decide +kernel
theorem dX7_runLog_64 : decode cX7_runLog 64 = .ok (.istore_n 1, 1) := by decide +kernel
theorem dX7_runLog_65 : decode cX7_runLog 65 = .ok (.aload_n 0, 1) := by decide +kernel
theorem dX7_runLog_66 : decode cX7_runLog 66 = .ok (.dup, 1) := by decide +kernel
theorem dX7_runLog_67 : decode cX7_runLog 67 = .ok (.getfield 116, 3) := by decide +kernel
theorem dX7_runLog_70 : decode cX7_runLog 70 = .ok (.iconst 1, 1) := by decide +kernel
theorem dX7_runLog_71 : decode cX7_runLog 71 = .ok (.iadd, 1) := by decide +kernel
theorem dX7_runLog_72 : decode cX7_runLog 72 = .ok (.putfield 116, 3) := by decide +kernel
theorem dX7_runLog_75 : decode cX7_runLog 75 = .ok (.goto (-47), 3) := by decide +kernel
theorem dX7_runLog_78 : decode cX7_runLog 78 = .ok (.aload_n 0, 1) := by decide +kernel
theorem dX7_runLog_79 : decode cX7_runLog 79 = .ok (.iconst 0, 1) := by decide +kernel
theorem dX7_runLog_80 : decode cX7_runLog 80 = .ok (.putfield 113, 3) := by decide +kernel
theorem dX7_runLog_83 : decode cX7_runLog 83 = .ok (.iload_n 1, 1) := by decide +kernel
theorem dX7_runLog_84 : decode cX7_runLog 84 = .ok (.ireturn, 1) := by decide +kernel
theorem dX7_keep_0 : decode cX7_keep 0 = .ok (.aload_n 0, 1) := by decide +kernel
theorem dX7_keep_1 : decode cX7_keep 1 = .ok (.iconst 0, 1) := by decide +kernel
theorem dX7_keep_2 : decode cX7_keep 2 = .ok (.putfield 31, 3) := by decide +kernel
theorem dX7_keep_5 : decode cX7_keep 5 = .ok (.aload_n 0, 1) := by decide +kernel
theorem dX7_keep_6 : decode cX7_keep 6 = .ok (.iconst 0, 1) := by decide +kernel
theorem dX7_keep_7 : decode cX7_keep 7 = .ok (.bipush 7, 2) := by decide +kernel
theorem dX7_keep_9 : decode cX7_keep 9 = .ok (.invokevirtual 38, 3) := by decide +kernel
theorem dX7_keep_12 : decode cX7_keep 12 = .ok (.aload_n 0, 1) := by decide +kernel
theorem dX7_keep_13 : decode cX7_keep 13 = .ok (.iconst 1, 1) := by decide +kernel
theorem dX7_keep_14 : decode cX7_keep 14 = .ok (.putfield 150, 3) := by decide +kernel
theorem dX7_keep_17 : decode cX7_keep 17 = .ok (.aload_n 0, 1) := by decide +kernel
theorem dX7_keep_18 : decode cX7_keep 18 = .ok (.getfield 7, 3) := by decide +kernel
theorem dX7_keep_21 : decode cX7_keep 21 = .ok (.iconst 2, 1) := by decide +kernel
theorem dX7_keep_22 : decode cX7_keep 22 = .ok (.iaload, 1) := by decide +kernel
theorem dX7_keep_23 : decode cX7_keep 23 = .ok (.ireturn, 1) := by decide +kernel
theorem dX7_goBack_0 : decode cX7_goBack 0 = .ok (.aload_n 0, 1) := by decide +kernel
theorem dX7_goBack_1 : decode cX7_goBack 1 = .ok (.aload_n 0, 1) := by decide +kernel
theorem dX7_goBack_2 : decode cX7_goBack 2 = .ok (.getfield 150, 3) := by decide +kernel
theorem dX7_goBack_5 : decode cX7_goBack 5 = .ok (.iconst 1, 1) := by decide +kernel
theorem dX7_goBack_6 : decode cX7_goBack 6 = .ok (.iconst 1, 1) := by decide +kernel
theorem dX7_goBack_7 : decode cX7_goBack 7 = .ok (.invokevirtual 69, 3) := by decide +kernel
theorem dX7_goBack_10 : decode cX7_goBack 10 = .ok (.ifCond .ne 5, 3) := by decide +kernel
theorem dX7_goBack_13 : decode cX7_goBack 13 = .ok (.iconst 0, 1) := by decide +kernel
theorem dX7_goBack_14 : decode cX7_goBack 14 = .ok (.ireturn, 1) := by decide +kernel
theorem dX7_goBack_15 : decode cX7_goBack 15 = .ok (.aload_n 0, 1) := by decide +kernel
theorem dX7_goBack_16 : decode cX7_goBack 16 = .ok (.invokevirtual 73, 3) := by decide +kernel
theorem dX7_goBack_19 : decode cX7_goBack 19 = .ok (.aload_n 0, 1) := by decide +kernel
theorem dX7_goBack_20 : decode cX7_goBack 20 = .ok (.bipush 7, 2) := by decide +kernel
theorem dX7_goBack_22 : decode cX7_goBack 22 = .ok (.iconst 0, 1) := by decide +kernel
theorem dX7_goBack_23 : decode cX7_goBack 23 = .ok (.invokevirtual 38, 3) := by decide +kernel
theorem dX7_goBack_26 : decode cX7_goBack 26 = .ok (.aload_n 0, 1) := by decide +kernel
theorem dX7_goBack_27 : decode cX7_goBack 27 = .ok (.getfield 7, 3) := by decide +kernel
theorem dX7_goBack_30 : decode cX7_goBack 30 = .ok (.iconst 2, 1) := by decide +kernel
theorem dX7_goBack_31 : decode cX7_goBack 31 = .ok (.iaload, 1) := by decide +kernel
theorem dX7_goBack_32 : decode cX7_goBack 32 = .ok (.ireturn, 1) := by decide +kernel
theorem dX7_undo_0 : decode cX7_undo 0 = .ok (.aload_n 0, 1) := by decide +kernel
theorem dX7_undo_1 : decode cX7_undo 1 = .ok (.aload_n 0, 1) := by decide +kernel
theorem dX7_undo_2 : decode cX7_undo 2 = .ok (.getfield 35, 3) := by decide +kernel
theorem dX7_undo_5 : decode cX7_undo 5 = .ok (.ifCond .le 7, 3) := by decide +kernel
theorem dX7_undo_8 : decode cX7_undo 8 = .ok (.iconst 1, 1) := by decide +kernel
theorem dX7_undo_9 : decode cX7_undo 9 = .ok (.goto 4, 3) := by decide +kernel
theorem dX7_undo_12 : decode cX7_undo 12 = .ok (.iconst 0, 1) := by decide +kernel
theorem dX7_undo_13 : decode cX7_undo 13 = .ok (.iconst 1, 1) := by decide +kernel
theorem dX7_undo_14 : decode cX7_undo 14 = .ok (.iconst 1, 1) := by decide +kernel
theorem dX7_undo_15 : decode cX7_undo 15 = .ok (.invokevirtual 69, 3) := by decide +kernel
theorem dX7_undo_18 : decode cX7_undo 18 = .ok (.ifCond .ne 5, 3) := by decide +kernel
theorem dX7_undo_21 : decode cX7_undo 21 = .ok (.iconst 0, 1) := by decide +kernel
theorem dX7_undo_22 : decode cX7_undo 22 = .ok (.ireturn, 1) := by decide +kernel
theorem dX7_undo_23 : decode cX7_undo 23 = .ok (.aload_n 0, 1) := by decide +kernel
theorem dX7_undo_24 : decode cX7_undo 24 = .ok (.aload_n 0, 1) := by decide +kernel
theorem dX7_undo_25 : decode cX7_undo 25 = .ok (.getfield 35, 3) := by decide +kernel
theorem dX7_undo_28 : decode cX7_undo 28 = .ok (.iconst 0, 1) := by decide +kernel
theorem dX7_undo_29 : decode cX7_undo 29 = .ok (.invokevirtual 38, 3) := by decide +kernel
theorem dX7_undo_32 : decode cX7_undo 32 = .ok (.aload_n 0, 1) := by decide +kernel
theorem dX7_undo_33 : decode cX7_undo 33 = .ok (.dup, 1) := by decide +kernel
theorem dX7_undo_34 : decode cX7_undo 34 = .ok (.getfield 35, 3) := by decide +kernel
theorem dX7_undo_37 : decode cX7_undo 37 = .ok (.iconst 1, 1) := by decide +kernel
theorem dX7_undo_38 : decode cX7_undo 38 = .ok (.isub, 1) := by decide +kernel
theorem dX7_undo_39 : decode cX7_undo 39 = .ok (.putfield 35, 3) := by decide +kernel
theorem dX7_undo_42 : decode cX7_undo 42 = .ok (.aload_n 0, 1) := by decide +kernel
theorem dX7_undo_43 : decode cX7_undo 43 = .ok (.getfield 35, 3) := by decide +kernel
theorem dX7_undo_46 : decode cX7_undo 46 = .ok (.ireturn, 1) := by decide +kernel
theorem dX7_rules_0 : decode cX7_rules 0 = .ok (.aload_n 0, 1) := by decide +kernel
theorem dX7_rules_1 : decode cX7_rules 1 = .ok (.iconst 0, 1) := by decide +kernel
theorem dX7_rules_2 : decode cX7_rules 2 = .ok (.putfield 31, 3) := by decide +kernel
theorem dX7_rules_5 : decode cX7_rules 5 = .ok (.aload_n 0, 1) := by decide +kernel
theorem dX7_rules_6 : decode cX7_rules 6 = .ok (.getfield 7, 3) := by decide +kernel
theorem dX7_rules_9 : decode cX7_rules 9 = .ok (.iconst 0, 1) := by decide +kernel
theorem dX7_rules_10 : decode cX7_rules 10 = .ok (.iaload, 1) := by decide +kernel
theorem dX7_rules_11 : decode cX7_rules 11 = .ok (.ireturn, 1) := by decide +kernel
theorem dX7_of_0 : decode cX7_of 0 = .ok (.aload_n 0, 1) := by decide +kernel
theorem dX7_of_1 : decode cX7_of 1 = .ok (.aload_n 0, 1) := by decide +kernel
theorem dX7_of_2 : decode cX7_of 2 = .ok (.iload_n 1, 1) := by decide +kernel
theorem dX7_of_3 : decode cX7_of 3 = .ok (.invokevirtual 80, 3) := by decide +kernel
theorem dX7_of_6 : decode cX7_of 6 = .ok (.iconst 1, 1) := by decide +kernel
theorem dX7_of_7 : decode cX7_of 7 = .ok (.iconst 1, 1) := by decide +kernel
theorem dX7_of_8 : decode cX7_of 8 = .ok (.invokevirtual 69, 3) := by decide +kernel
theorem dX7_of_11 : decode cX7_of 11 = .ok (.ifCond .eq 17, 3) := by decide +kernel
theorem dX7_of_14 : decode cX7_of 14 = .ok (.aload_n 0, 1) := by decide +kernel
theorem dX7_of_15 : decode cX7_of 15 = .ok (.getfield 7, 3) := by decide +kernel
theorem dX7_of_18 : decode cX7_of 18 = .ok (.iload_n 1, 1) := by decide +kernel
theorem dX7_of_19 : decode cX7_of 19 = .ok (.invokestatic 52, 3) := by decide +kernel
theorem dX7_of_22 : decode cX7_of 22 = .ok (.iload_n 2, 1) := by decide +kernel
theorem dX7_of_23 : decode cX7_of 23 = .ok (.iadd, 1) := by decide +kernel
theorem dX7_of_24 : decode cX7_of 24 = .ok (.iaload, 1) := by decide +kernel
theorem dX7_of_25 : decode cX7_of 25 = .ok (.goto 4, 3) := by decide +kernel
theorem dX7_of_28 : decode cX7_of 28 = .ok (.iconst 0, 1) := by decide +kernel
theorem dX7_of_29 : decode cX7_of 29 = .ok (.ireturn, 1) := by decide +kernel
theorem dX7_shouldBeLet_0 : decode cX7_shouldBeLet 0 = .ok (.aload_n 0, 1) := by decide +kernel
theorem dX7_shouldBeLet_1 : decode cX7_shouldBeLet 1 = .ok (.iload_n 1, 1) := by decide +kernel
theorem dX7_shouldBeLet_2 : decode cX7_shouldBeLet 2 = .ok (.iconst 0, 1) := by decide +kernel
theorem dX7_shouldBeLet_3 : decode cX7_shouldBeLet 3 = .ok (.invokevirtual 154, 3) := by decide +kernel
theorem dX7_shouldBeLet_6 : decode cX7_shouldBeLet 6 = .ok (.ireturn, 1) := by decide +kernel
theorem dX7_shouldBeEmpty_0 : decode cX7_shouldBeEmpty 0 = .ok (.aload_n 0, 1) := by decide +kernel
theorem dX7_shouldBeEmpty_1 : decode cX7_shouldBeEmpty 1 = .ok (.iload_n 1, 1) := by decide +kernel
theorem dX7_shouldBeEmpty_2 : decode cX7_shouldBeEmpty 2 = .ok (.iconst 1, 1) := by decide +kernel
theorem dX7_shouldBeEmpty_3 : decode cX7_shouldBeEmpty 3 = .ok (.invokevirtual 154, 3) := by decide +kernel
theorem dX7_shouldBeEmpty_6 : decode cX7_shouldBeEmpty 6 = .ok (.ireturn, 1) := by decide +kernel
theorem dX7_fine_0 : decode cX7_fine 0 = .ok (.aload_n 0, 1) := by decide +kernel
theorem dX7_fine_1 : decode cX7_fine 1 = .ok (.iload_n 1, 1) := by decide +kernel
theorem dX7_fine_2 : decode cX7_fine 2 = .ok (.iconst 2, 1) := by decide +kernel
theorem dX7_fine_3 : decode cX7_fine 3 = .ok (.invokevirtual 154, 3) := by decide +kernel
theorem dX7_fine_6 : decode cX7_fine 6 = .ok (.ireturn, 1) := by decide +kernel
theorem dX7_isStrict_0 : decode cX7_isStrict 0 = .ok (.aload_n 0, 1) := by decide +kernel
theorem dX7_isStrict_1 : decode cX7_isStrict 1 = .ok (.iload_n 1, 1) := by decide +kernel
theorem dX7_isStrict_2 : decode cX7_isStrict 2 = .ok (.iconst 3, 1) := by decide +kernel
theorem dX7_isStrict_3 : decode cX7_isStrict 3 = .ok (.invokevirtual 154, 3) := by decide +kernel
theorem dX7_isStrict_6 : decode cX7_isStrict 6 = .ok (.iconst 1, 1) := by decide +kernel
theorem dX7_isStrict_7 : decode cX7_isStrict 7 = .ok (.if_icmp .ne 7, 3) := by decide +kernel
theorem dX7_isStrict_10 : decode cX7_isStrict 10 = .ok (.iconst 1, 1) := by decide +kernel
theorem dX7_isStrict_11 : decode cX7_isStrict 11 = .ok (.goto 4, 3) := by decide +kernel
theorem dX7_isStrict_14 : decode cX7_isStrict 14 = .ok (.iconst 0, 1) := by decide +kernel
theorem dX7_isStrict_15 : decode cX7_isStrict 15 = .ok (.ireturn, 1) := by decide +kernel
theorem dX7_waived_0 : decode cX7_waived 0 = .ok (.aload_n 0, 1) := by decide +kernel
theorem dX7_waived_1 : decode cX7_waived 1 = .ok (.getfield 7, 3) := by decide +kernel
theorem dX7_waived_4 : decode cX7_waived 4 = .ok (.iload_n 1, 1) := by decide +kernel
theorem dX7_waived_5 : decode cX7_waived 5 = .ok (.invokestatic 52, 3) := by decide +kernel
theorem dX7_waived_8 : decode cX7_waived 8 = .ok (.iconst 4, 1) := by decide +kernel
theorem dX7_waived_9 : decode cX7_waived 9 = .ok (.iadd, 1) := by decide +kernel
theorem dX7_waived_10 : decode cX7_waived 10 = .ok (.iaload, 1) := by decide +kernel
theorem dX7_waived_11 : decode cX7_waived 11 = .ok (.aload_n 0, 1) := by decide +kernel
theorem dX7_waived_12 : decode cX7_waived 12 = .ok (.getfield 7, 3) := by decide +kernel
theorem dX7_waived_15 : decode cX7_waived 15 = .ok (.iconst 2, 1) := by decide +kernel
theorem dX7_waived_16 : decode cX7_waived 16 = .ok (.iaload, 1) := by decide +kernel
theorem dX7_waived_17 : decode cX7_waived 17 = .ok (.isub, 1) := by decide +kernel
theorem dX7_waived_18 : decode cX7_waived 18 = .ok (.istore_n 2, 1) := by decide +kernel
theorem dX7_waived_19 : decode cX7_waived 19 = .ok (.iload_n 2, 1) := by decide +kernel
theorem dX7_waived_20 : decode cX7_waived 20 = .ok (.ifCond .le 7, 3) := by decide +kernel
theorem dX7_waived_23 : decode cX7_waived 23 = .ok (.iload_n 2, 1) := by decide +kernel
theorem dX7_waived_24 : decode cX7_waived 24 = .ok (.goto 4, 3) := by decide +kernel
theorem dX7_waived_27 : decode cX7_waived 27 = .ok (.iconst 0, 1) := by decide +kernel
theorem dX7_waived_28 : decode cX7_waived 28 = .ok (.ireturn, 1) := by decide +kernel
theorem dX7_waivedFor_0 : decode cX7_waivedFor 0 = .ok (.aload_n 0, 1) := by decide +kernel
theorem dX7_waivedFor_1 : decode cX7_waivedFor 1 = .ok (.aload_n 0, 1) := by decide +kernel
theorem dX7_waivedFor_2 : decode cX7_waivedFor 2 = .ok (.iload_n 1, 1) := by decide +kernel
theorem dX7_waivedFor_3 : decode cX7_waivedFor 3 = .ok (.invokevirtual 80, 3) := by decide +kernel
theorem dX7_waivedFor_6 : decode cX7_waivedFor 6 = .ok (.iconst 1, 1) := by decide +kernel
theorem dX7_waivedFor_7 : decode cX7_waivedFor 7 = .ok (.iconst 1, 1) := by decide +kernel
theorem dX7_waivedFor_8 : decode cX7_waivedFor 8 = .ok (.invokevirtual 69, 3) := by decide +kernel
theorem dX7_waivedFor_11 : decode cX7_waivedFor 11 = .ok (.ifCond .eq 11, 3) := by decide +kernel
theorem dX7_waivedFor_14 : decode cX7_waivedFor 14 = .ok (.aload_n 0, 1) := by decide +kernel
theorem dX7_waivedFor_15 : decode cX7_waivedFor 15 = .ok (.iload_n 1, 1) := by decide +kernel
theorem dX7_waivedFor_16 : decode cX7_waivedFor 16 = .ok (.invokevirtual 157, 3) := by decide +kernel
theorem dX7_waivedFor_19 : decode cX7_waivedFor 19 = .ok (.goto 4, 3) := by decide +kernel
theorem dX7_waivedFor_22 : decode cX7_waivedFor 22 = .ok (.iconst 0, 1) := by decide +kernel
theorem dX7_waivedFor_23 : decode cX7_waivedFor 23 = .ok (.ireturn, 1) := by decide +kernel
theorem dX7_holdsIn_0 : decode cX7_holdsIn 0 = .ok (.aload_n 0, 1) := by decide +kernel
theorem dX7_holdsIn_1 : decode cX7_holdsIn 1 = .ok (.aload_n 0, 1) := by decide +kernel
theorem dX7_holdsIn_2 : decode cX7_holdsIn 2 = .ok (.iload_n 1, 1) := by decide +kernel
theorem dX7_holdsIn_3 : decode cX7_holdsIn 3 = .ok (.invokevirtual 80, 3) := by decide +kernel
theorem dX7_holdsIn_6 : decode cX7_holdsIn 6 = .ok (.iload_n 2, 1) := by decide +kernel
theorem dX7_holdsIn_7 : decode cX7_holdsIn 7 = .ok (.iconst 0, 1) := by decide +kernel
theorem dX7_holdsIn_8 : decode cX7_holdsIn 8 = .ok (.bipush 63, 2) := by decide +kernel
theorem dX7_holdsIn_10 : decode cX7_holdsIn 10 = .ok (.invokestatic 42, 3) := by decide +kernel
theorem dX7_holdsIn_13 : decode cX7_holdsIn 13 = .ok (.iconst 1, 1) := by decide +kernel
theorem dX7_holdsIn_14 : decode cX7_holdsIn 14 = .ok (.invokevirtual 69, 3) := by decide +kernel
theorem dX7_holdsIn_17 : decode cX7_holdsIn 17 = .ok (.ifCond .eq 16, 3) := by decide +kernel
theorem dX7_holdsIn_20 : decode cX7_holdsIn 20 = .ok (.aload_n 0, 1) := by decide +kernel
theorem dX7_holdsIn_21 : decode cX7_holdsIn 21 = .ok (.iload_n 1, 1) := by decide +kernel
theorem dX7_holdsIn_22 : decode cX7_holdsIn 22 = .ok (.iload_n 2, 1) := by decide +kernel
theorem dX7_holdsIn_23 : decode cX7_holdsIn 23 = .ok (.invokevirtual 63, 3) := by decide +kernel
theorem dX7_holdsIn_26 : decode cX7_holdsIn 26 = .ok (.ifCond .eq 7, 3) := by decide +kernel
theorem dX7_holdsIn_29 : decode cX7_holdsIn 29 = .ok (.iconst 1, 1) := by decide +kernel
theorem dX7_holdsIn_30 : decode cX7_holdsIn 30 = .ok (.goto 4, 3) := by decide +kernel
theorem dX7_holdsIn_33 : decode cX7_holdsIn 33 = .ok (.iconst 0, 1) := by decide +kernel
theorem dX7_holdsIn_34 : decode cX7_holdsIn 34 = .ok (.ireturn, 1) := by decide +kernel
theorem dX7_way_0 : decode cX7_way 0 = .ok (.aload_n 0, 1) := by decide +kernel
theorem dX7_way_1 : decode cX7_way 1 = .ok (.iconst 0, 1) := by decide +kernel
theorem dX7_way_2 : decode cX7_way 2 = .ok (.putfield 31, 3) := by decide +kernel
theorem dX7_way_5 : decode cX7_way 5 = .ok (.aload_n 0, 1) := by decide +kernel
theorem dX7_way_6 : decode cX7_way 6 = .ok (.getfield 7, 3) := by decide +kernel
theorem dX7_way_9 : decode cX7_way 9 = .ok (.iconst 1, 1) := by decide +kernel
theorem dX7_way_10 : decode cX7_way 10 = .ok (.iaload, 1) := by decide +kernel
theorem dX7_way_11 : decode cX7_way 11 = .ok (.ireturn, 1) := by decide +kernel
theorem dX7_day_0 : decode cX7_day 0 = .ok (.aload_n 0, 1) := by decide +kernel
theorem dX7_day_1 : decode cX7_day 1 = .ok (.iconst 0, 1) := by decide +kernel
theorem dX7_day_2 : decode cX7_day 2 = .ok (.putfield 31, 3) := by decide +kernel
theorem dX7_day_5 : decode cX7_day 5 = .ok (.aload_n 0, 1) := by decide +kernel
theorem dX7_day_6 : decode cX7_day 6 = .ok (.getfield 7, 3) := by decide +kernel
theorem dX7_day_9 : decode cX7_day 9 = .ok (.iconst 2, 1) := by decide +kernel
theorem dX7_day_10 : decode cX7_day 10 = .ok (.iaload, 1) := by decide +kernel
theorem dX7_day_11 : decode cX7_day 11 = .ok (.ireturn, 1) := by decide +kernel
theorem dX7_inForce_0 : decode cX7_inForce 0 = .ok (.aload_n 0, 1) := by decide +kernel
theorem dX7_inForce_1 : decode cX7_inForce 1 = .ok (.iconst 0, 1) := by decide +kernel
theorem dX7_inForce_2 : decode cX7_inForce 2 = .ok (.putfield 31, 3) := by decide +kernel
theorem dX7_inForce_5 : decode cX7_inForce 5 = .ok (.aload_n 0, 1) := by decide +kernel
theorem dX7_inForce_6 : decode cX7_inForce 6 = .ok (.invokevirtual 160, 3) := by decide +kernel
theorem dX7_inForce_9 : decode cX7_inForce 9 = .ok (.ireturn, 1) := by decide +kernel
theorem dX7_broken_0 : decode cX7_broken 0 = .ok (.aload_n 0, 1) := by decide +kernel
theorem dX7_broken_1 : decode cX7_broken 1 = .ok (.iconst 0, 1) := by decide +kernel
theorem dX7_broken_2 : decode cX7_broken 2 = .ok (.putfield 31, 3) := by decide +kernel
theorem dX7_broken_5 : decode cX7_broken 5 = .ok (.aload_n 0, 1) := by decide +kernel
theorem dX7_broken_6 : decode cX7_broken 6 = .ok (.aload_n 0, 1) := by decide +kernel
theorem dX7_broken_7 : decode cX7_broken 7 = .ok (.getfield 7, 3) := by decide +kernel
theorem dX7_broken_10 : decode cX7_broken 10 = .ok (.iconst 1, 1) := by decide +kernel
theorem dX7_broken_11 : decode cX7_broken 11 = .ok (.iaload, 1) := by decide +kernel
theorem dX7_broken_12 : decode cX7_broken 12 = .ok (.invokevirtual 104, 3) := by decide +kernel
theorem dX7_broken_15 : decode cX7_broken 15 = .ok (.ireturn, 1) := by decide +kernel
theorem dX7_refusedBy_0 : decode cX7_refusedBy 0 = .ok (.aload_n 0, 1) := by decide +kernel
theorem dX7_refusedBy_1 : decode cX7_refusedBy 1 = .ok (.iload_n 1, 1) := by decide +kernel
theorem dX7_refusedBy_2 : decode cX7_refusedBy 2 = .ok (.invokestatic 88, 3) := by decide +kernel
theorem dX7_refusedBy_5 : decode cX7_refusedBy 5 = .ok (.iconst 1, 1) := by decide +kernel
theorem dX7_refusedBy_6 : decode cX7_refusedBy 6 = .ok (.iconst 1, 1) := by decide +kernel
theorem dX7_refusedBy_7 : decode cX7_refusedBy 7 = .ok (.invokevirtual 69, 3) := by decide +kernel
theorem dX7_refusedBy_10 : decode cX7_refusedBy 10 = .ok (.ifCond .eq 11, 3) := by decide +kernel
theorem dX7_refusedBy_13 : decode cX7_refusedBy 13 = .ok (.aload_n 0, 1) := by decide +kernel
theorem dX7_refusedBy_14 : decode cX7_refusedBy 14 = .ok (.iload_n 1, 1) := by decide +kernel
theorem dX7_refusedBy_15 : decode cX7_refusedBy 15 = .ok (.invokevirtual 94, 3) := by decide +kernel
theorem dX7_refusedBy_18 : decode cX7_refusedBy 18 = .ok (.goto 4, 3) := by decide +kernel
theorem dX7_refusedBy_21 : decode cX7_refusedBy 21 = .ok (.iconst 0, 1) := by decide +kernel
theorem dX7_refusedBy_22 : decode cX7_refusedBy 22 = .ok (.ireturn, 1) := by decide +kernel
theorem dX7_finesOf_0 : decode cX7_finesOf 0 = .ok (.aload_n 0, 1) := by decide +kernel
theorem dX7_finesOf_1 : decode cX7_finesOf 1 = .ok (.iload_n 1, 1) := by decide +kernel
theorem dX7_finesOf_2 : decode cX7_finesOf 2 = .ok (.iconst 5, 1) := by decide +kernel
theorem dX7_finesOf_3 : decode cX7_finesOf 3 = .ok (.invokevirtual 154, 3) := by decide +kernel
theorem dX7_finesOf_6 : decode cX7_finesOf 6 = .ok (.ireturn, 1) := by decide +kernel
theorem dX7_fines_0 : decode cX7_fines 0 = .ok (.aload_n 0, 1) := by decide +kernel
theorem dX7_fines_1 : decode cX7_fines 1 = .ok (.iconst 0, 1) := by decide +kernel
theorem dX7_fines_2 : decode cX7_fines 2 = .ok (.putfield 31, 3) := by decide +kernel
theorem dX7_fines_5 : decode cX7_fines 5 = .ok (.aload_n 0, 1) := by decide +kernel
theorem dX7_fines_6 : decode cX7_fines 6 = .ok (.getfield 7, 3) := by decide +kernel
theorem dX7_fines_9 : decode cX7_fines 9 = .ok (.iconst 3, 1) := by decide +kernel
theorem dX7_fines_10 : decode cX7_fines 10 = .ok (.iaload, 1) := by decide +kernel
theorem dX7_fines_11 : decode cX7_fines 11 = .ok (.ireturn, 1) := by decide +kernel
theorem dX7_sumOfRules_0 : decode cX7_sumOfRules 0 = .ok (.aload_n 0, 1) := by decide +kernel
theorem dX7_sumOfRules_1 : decode cX7_sumOfRules 1 = .ok (.getfield 7, 3) := by decide +kernel
theorem dX7_sumOfRules_4 : decode cX7_sumOfRules 4 = .ok (.iconst 4, 1) := by decide +kernel
theorem dX7_sumOfRules_5 : decode cX7_sumOfRules 5 = .ok (.iaload, 1) := by decide +kernel
theorem dX7_sumOfRules_6 : decode cX7_sumOfRules 6 = .ok (.istore_n 1, 1) := by decide +kernel
theorem dX7_sumOfRules_7 : decode cX7_sumOfRules 7 = .ok (.iconst 0, 1) := by decide +kernel
theorem dX7_sumOfRules_8 : decode cX7_sumOfRules 8 = .ok (.istore_n 2, 1) := by decide +kernel
theorem dX7_sumOfRules_9 : decode cX7_sumOfRules 9 = .ok (.iload_n 2, 1) := by decide +kernel
theorem dX7_sumOfRules_10 : decode cX7_sumOfRules 10 = .ok (.aload_n 0, 1) := by decide +kernel
theorem dX7_sumOfRules_11 : decode cX7_sumOfRules 11 = .ok (.getfield 7, 3) := by decide +kernel
theorem dX7_sumOfRules_14 : decode cX7_sumOfRules 14 = .ok (.iconst 0, 1) := by decide +kernel
theorem dX7_sumOfRules_15 : decode cX7_sumOfRules 15 = .ok (.iaload, 1) := by decide +kernel
theorem dX7_sumOfRules_16 : decode cX7_sumOfRules 16 = .ok (.if_icmp .ge 23, 3) := by decide +kernel
theorem dX7_sumOfRules_19 : decode cX7_sumOfRules 19 = .ok (.iload_n 1, 1) := by decide +kernel
theorem dX7_sumOfRules_20 : decode cX7_sumOfRules 20 = .ok (.aload_n 0, 1) := by decide +kernel
theorem dX7_sumOfRules_21 : decode cX7_sumOfRules 21 = .ok (.getfield 7, 3) := by decide +kernel
theorem dX7_sumOfRules_24 : decode cX7_sumOfRules 24 = .ok (.iload_n 2, 1) := by decide +kernel
theorem dX7_sumOfRules_25 : decode cX7_sumOfRules 25 = .ok (.invokestatic 52, 3) := by decide +kernel
theorem dX7_sumOfRules_28 : decode cX7_sumOfRules 28 = .ok (.iconst 5, 1) := by decide +kernel
theorem dX7_sumOfRules_29 : decode cX7_sumOfRules 29 = .ok (.iadd, 1) := by decide +kernel
theorem dX7_sumOfRules_30 : decode cX7_sumOfRules 30 = .ok (.iaload, 1) := by decide +kernel
theorem dX7_sumOfRules_31 : decode cX7_sumOfRules 31 = .ok (.iadd, 1) := by decide +kernel
theorem dX7_sumOfRules_32 : decode cX7_sumOfRules 32 = .ok (.istore_n 1, 1) := by decide +kernel
theorem dX7_sumOfRules_33 : decode cX7_sumOfRules 33 = .ok (.iinc 2 1, 3) := by decide +kernel
theorem dX7_sumOfRules_36 : decode cX7_sumOfRules 36 = .ok (.goto (-27), 3) := by decide +kernel
theorem dX7_sumOfRules_39 : decode cX7_sumOfRules 39 = .ok (.iload_n 1, 1) := by decide +kernel
theorem dX7_sumOfRules_40 : decode cX7_sumOfRules 40 = .ok (.ireturn, 1) := by decide +kernel
theorem dX7_finesByRules_0 : decode cX7_finesByRules 0 = .ok (.aload_n 0, 1) := by decide +kernel
theorem dX7_finesByRules_1 : decode cX7_finesByRules 1 = .ok (.iconst 0, 1) := by decide +kernel
theorem dX7_finesByRules_2 : decode cX7_finesByRules 2 = .ok (.putfield 31, 3) := by decide +kernel
theorem dX7_finesByRules_5 : decode cX7_finesByRules 5 = .ok (.aload_n 0, 1) := by decide +kernel
theorem dX7_finesByRules_6 : decode cX7_finesByRules 6 = .ok (.invokevirtual 164, 3) := by decide +kernel
theorem dX7_finesByRules_9 : decode cX7_finesByRules 9 = .ok (.ireturn, 1) := by decide +kernel
theorem dX7_areRules_0 : decode cX7_areRules 0 = .ok (.iload_n 1, 1) := by decide +kernel
theorem dX7_areRules_1 : decode cX7_areRules 1 = .ok (.ifCond .lt 19, 3) := by decide +kernel
theorem dX7_areRules_4 : decode cX7_areRules 4 = .ok (.iload_n 1, 1) := by decide +kernel
theorem dX7_areRules_5 : decode cX7_areRules 5 = .ok (.iconst 1, 1) := by decide +kernel
theorem dX7_areRules_6 : decode cX7_areRules 6 = .ok (.aload_n 0, 1) := by decide +kernel
theorem dX7_areRules_7 : decode cX7_areRules 7 = .ok (.getfield 7, 3) := by decide +kernel
theorem dX7_areRules_10 : decode cX7_areRules 10 = .ok (.iconst 0, 1) := by decide +kernel
theorem dX7_areRules_11 : decode cX7_areRules 11 = .ok (.iaload, 1) := by decide +kernel
theorem dX7_areRules_12 : decode cX7_areRules 12 = .ok (.ishl, 1) := by decide +kernel
theorem dX7_areRules_13 : decode cX7_areRules 13 = .ok (.if_icmp .ge 7, 3) := by decide +kernel
theorem dX7_areRules_16 : decode cX7_areRules 16 = .ok (.iconst 1, 1) := by decide +kernel
theorem dX7_areRules_17 : decode cX7_areRules 17 = .ok (.goto 4, 3) := by decide +kernel
theorem dX7_areRules_20 : decode cX7_areRules 20 = .ok (.iconst 0, 1) := by decide +kernel
theorem dX7_areRules_21 : decode cX7_areRules 21 = .ok (.ireturn, 1) := by decide +kernel
theorem dX7_stands_0 : decode cX7_stands 0 = .ok (.aload_n 0, 1) := by decide +kernel
theorem dX7_stands_1 : decode cX7_stands 1 = .ok (.invokevirtual 167, 3) := by decide +kernel
theorem dX7_stands_4 : decode cX7_stands 4 = .ok (.aload_n 0, 1) := by decide +kernel
theorem dX7_stands_5 : decode cX7_stands 5 = .ok (.iload_n 1, 1) := by decide +kernel
theorem dX7_stands_6 : decode cX7_stands 6 = .ok (.invokevirtual 170, 3) := by decide +kernel
theorem dX7_stands_9 : decode cX7_stands 9 = .ok (.lconst 0, 1) := by decide +kernel
theorem dX7_stands_10 : decode cX7_stands 10 = .ok (.lcmp, 1) := by decide +kernel
theorem dX7_stands_11 : decode cX7_stands 11 = .ok (.ifCond .eq 7, 3) := by decide +kernel
theorem dX7_stands_14 : decode cX7_stands 14 = .ok (.iconst 1, 1) := by decide +kernel
theorem dX7_stands_15 : decode cX7_stands 15 = .ok (.goto 4, 3) := by decide +kernel
theorem dX7_stands_18 : decode cX7_stands 18 = .ok (.iconst 0, 1) := by decide +kernel
theorem dX7_stands_19 : decode cX7_stands 19 = .ok (.ireturn, 1) := by decide +kernel
theorem dX7_splits_0 : decode cX7_splits 0 = .ok (.iconst 0, 1) := by decide +kernel
theorem dX7_splits_1 : decode cX7_splits 1 = .ok (.istore_n 2, 1) := by decide +kernel
theorem dX7_splits_2 : decode cX7_splits 2 = .ok (.iconst 0, 1) := by decide +kernel
theorem dX7_splits_3 : decode cX7_splits 3 = .ok (.istore_n 3, 1) := by decide +kernel
theorem dX7_splits_4 : decode cX7_splits 4 = .ok (.iload_n 3, 1) := by decide +kernel
theorem dX7_splits_5 : decode cX7_splits 5 = .ok (.bipush 64, 2) := by decide +kernel
theorem dX7_splits_7 : decode cX7_splits 7 = .ok (.if_icmp .ge 70, 3) := by decide +kernel
theorem dX7_splits_10 : decode cX7_splits 10 = .ok (.iload_n 2, 1) := by decide +kernel
theorem dX7_splits_11 : decode cX7_splits 11 = .ok (.ifCond .ne 66, 3) := by decide +kernel
theorem dX7_splits_14 : decode cX7_splits 14 = .ok (.iconst 1, 1) := by decide +kernel
theorem dX7_splits_15 : decode cX7_splits 15 = .ok (.istore 4, 2) := by decide +kernel
theorem dX7_splits_17 : decode cX7_splits 17 = .ok (.iconst 0, 1) := by decide +kernel
theorem dX7_splits_18 : decode cX7_splits 18 = .ok (.istore 5, 2) := by decide +kernel
theorem dX7_splits_20 : decode cX7_splits 20 = .ok (.iload 5, 2) := by decide +kernel
theorem dX7_splits_22 : decode cX7_splits 22 = .ok (.aload_n 0, 1) := by decide +kernel
theorem dX7_splits_23 : decode cX7_splits 23 = .ok (.getfield 7, 3) := by decide +kernel
theorem dX7_splits_26 : decode cX7_splits 26 = .ok (.iconst 0, 1) := by decide +kernel
theorem dX7_splits_27 : decode cX7_splits 27 = .ok (.iaload, 1) := by decide +kernel
theorem dX7_splits_28 : decode cX7_splits 28 = .ok (.if_icmp .ge 40, 3) := by decide +kernel
theorem dX7_splits_31 : decode cX7_splits 31 = .ok (.iload 4, 2) := by decide +kernel
theorem dX7_splits_33 : decode cX7_splits 33 = .ok (.ifCond .eq 26, 3) := by decide +kernel
theorem dX7_splits_36 : decode cX7_splits 36 = .ok (.iload_n 1, 1) := by decide +kernel
theorem dX7_splits_37 : decode cX7_splits 37 = .ok (.iload 5, 2) := by decide +kernel
theorem dX7_splits_39 : decode cX7_splits 39 = .ok (.invokestatic 46, 3) := by decide +kernel
theorem dX7_splits_42 : decode cX7_splits 42 = .ok (.ifCond .eq 13, 3) := by decide +kernel
theorem dX7_splits_45 : decode cX7_splits 45 = .ok (.aload_n 0, 1) := by decide +kernel
theorem dX7_splits_46 : decode cX7_splits 46 = .ok (.iload 5, 2) := by decide +kernel
theorem dX7_splits_48 : decode cX7_splits 48 = .ok (.iload_n 3, 1) := by decide +kernel
theorem dX7_splits_49 : decode cX7_splits 49 = .ok (.invokevirtual 63, 3) := by decide +kernel
theorem dX7_splits_52 : decode cX7_splits 52 = .ok (.ifCond .eq 7, 3) := by decide +kernel
theorem dX7_splits_55 : decode cX7_splits 55 = .ok (.iconst 1, 1) := by decide +kernel
theorem dX7_splits_56 : decode cX7_splits 56 = .ok (.goto 4, 3) := by decide +kernel
theorem dX7_splits_59 : decode cX7_splits 59 = .ok (.iconst 0, 1) := by decide +kernel
theorem dX7_splits_60 : decode cX7_splits 60 = .ok (.istore 4, 2) := by decide +kernel
theorem dX7_splits_62 : decode cX7_splits 62 = .ok (.iinc 5 1, 3) := by decide +kernel
theorem dX7_splits_65 : decode cX7_splits 65 = .ok (.goto (-45), 3) := by decide +kernel
theorem dX7_splits_68 : decode cX7_splits 68 = .ok (.iload 4, 2) := by decide +kernel
theorem dX7_splits_70 : decode cX7_splits 70 = .ok (.istore_n 2, 1) := by decide +kernel
theorem dX7_splits_71 : decode cX7_splits 71 = .ok (.iinc 3 1, 3) := by decide +kernel
theorem dX7_splits_74 : decode cX7_splits 74 = .ok (.goto (-70), 3) := by decide +kernel
theorem dX7_splits_77 : decode cX7_splits 77 = .ok (.iload_n 2, 1) := by decide +kernel
theorem dX7_splits_78 : decode cX7_splits 78 = .ok (.ireturn, 1) := by decide +kernel
theorem dX7_puts_0 : decode cX7_puts 0 = .ok (.bipush 64, 2) := by decide +kernel
theorem dX7_puts_2 : decode cX7_puts 2 = .ok (.iload_n 1, 1) := by decide +kernel
theorem dX7_puts_3 : decode cX7_puts 3 = .ok (.imul, 1) := by decide +kernel
theorem dX7_puts_4 : decode cX7_puts 4 = .ok (.iload_n 2, 1) := by decide +kernel
theorem dX7_puts_5 : decode cX7_puts 5 = .ok (.iadd, 1) := by decide +kernel
theorem dX7_puts_6 : decode cX7_puts 6 = .ok (.istore_n 3, 1) := by decide +kernel
theorem dX7_puts_7 : decode cX7_puts 7 = .ok (.iload_n 1, 1) := by decide +kernel
theorem dX7_puts_8 : decode cX7_puts 8 = .ok (.iload_n 2, 1) := by decide +kernel
theorem dX7_puts_9 : decode cX7_puts 9 = .ok (.iand, 1) := by decide +kernel
theorem dX7_puts_10 : decode cX7_puts 10 = .ok (.ifCond .ne 39, 3) := by decide +kernel
theorem dX7_puts_13 : decode cX7_puts 13 = .ok (.aload_n 0, 1) := by decide +kernel
theorem dX7_puts_14 : decode cX7_puts 14 = .ok (.getfield 24, 3) := by decide +kernel
theorem dX7_puts_17 : decode cX7_puts 17 = .ok (.iload_n 3, 1) := by decide +kernel
theorem dX7_puts_18 : decode cX7_puts 18 = .ok (.baload, 1) := by decide +kernel
theorem dX7_puts_19 : decode cX7_puts 19 = .ok (.ifCond .ne 30, 3) := by decide +kernel
theorem dX7_puts_22 : decode cX7_puts 22 = .ok (.aload_n 0, 1) := by decide +kernel
theorem dX7_puts_23 : decode cX7_puts 23 = .ok (.getfield 24, 3) := by decide +kernel
theorem dX7_puts_26 : decode cX7_puts 26 = .ok (.iload_n 3, 1) := by decide +kernel
theorem dX7_puts_27 : decode cX7_puts 27 = .ok (.iconst 1, 1) := by decide +kernel
theorem dX7_puts_28 : decode cX7_puts 28 = .ok (.bastore, 1) := by decide +kernel
theorem dX7_puts_29 : decode cX7_puts 29 = .ok (.aload_n 0, 1) := by decide +kernel
theorem dX7_puts_30 : decode cX7_puts 30 = .ok (.getfield 28, 3) := by decide +kernel
theorem dX7_puts_33 : decode cX7_puts 33 = .ok (.aload_n 0, 1) := by decide +kernel
theorem dX7_puts_34 : decode cX7_puts 34 = .ok (.getfield 174, 3) := by decide +kernel
theorem dX7_puts_37 : decode cX7_puts 37 = .ok (.iload_n 3, 1) := by decide +kernel
theorem dX7_puts_38 : decode cX7_puts 38 = .ok (.iastore, 1) := by decide +kernel
theorem dX7_puts_39 : decode cX7_puts 39 = .ok (.aload_n 0, 1) := by decide +kernel
theorem dX7_puts_40 : decode cX7_puts 40 = .ok (.dup, 1) := by decide +kernel
theorem dX7_puts_41 : decode cX7_puts 41 = .ok (.getfield 174, 3) := by decide +kernel
theorem dX7_puts_44 : decode cX7_puts 44 = .ok (.iconst 1, 1) := by decide +kernel
theorem dX7_puts_45 : decode cX7_puts 45 = .ok (.iadd, 1) := by decide +kernel
theorem dX7_puts_46 : decode cX7_puts 46 = .ok (.putfield 174, 3) := by decide +kernel
theorem dX7_puts_49 : decode cX7_puts 49 = .ok (.return_, 1) := by decide +kernel
theorem dX7_joins_0 : decode cX7_joins 0 = .ok (.iconst 0, 1) := by decide +kernel
theorem dX7_joins_1 : decode cX7_joins 1 = .ok (.istore_n 3, 1) := by decide +kernel
theorem dX7_joins_2 : decode cX7_joins 2 = .ok (.iload_n 3, 1) := by decide +kernel
theorem dX7_joins_3 : decode cX7_joins 3 = .ok (.bipush 6, 2) := by decide +kernel
theorem dX7_joins_5 : decode cX7_joins 5 = .ok (.if_icmp .ge 68, 3) := by decide +kernel
theorem dX7_joins_8 : decode cX7_joins 8 = .ok (.iconst 1, 1) := by decide +kernel
theorem dX7_joins_9 : decode cX7_joins 9 = .ok (.iload_n 3, 1) := by decide +kernel
theorem dX7_joins_10 : decode cX7_joins 10 = .ok (.ishl, 1) := by decide +kernel
theorem dX7_joins_11 : decode cX7_joins 11 = .ok (.istore 4, 2) := by decide +kernel
theorem dX7_joins_13 : decode cX7_joins 13 = .ok (.iload_n 1, 1) := by decide +kernel
theorem dX7_joins_14 : decode cX7_joins 14 = .ok (.bipush 64, 2) := by decide +kernel
theorem dX7_joins_16 : decode cX7_joins 16 = .ok (.idiv, 1) := by decide +kernel
theorem dX7_joins_17 : decode cX7_joins 17 = .ok (.iload_n 3, 1) := by decide +kernel
theorem dX7_joins_18 : decode cX7_joins 18 = .ok (.invokestatic 46, 3) := by decide +kernel
theorem dX7_joins_21 : decode cX7_joins 21 = .ok (.ifCond .eq 46, 3) := by decide +kernel
theorem dX7_joins_24 : decode cX7_joins 24 = .ok (.iload_n 2, 1) := by decide +kernel
theorem dX7_joins_25 : decode cX7_joins 25 = .ok (.bipush 64, 2) := by decide +kernel
theorem dX7_joins_27 : decode cX7_joins 27 = .ok (.irem, 1) := by decide +kernel
theorem dX7_joins_28 : decode cX7_joins 28 = .ok (.iload_n 3, 1) := by decide +kernel
theorem dX7_joins_29 : decode cX7_joins 29 = .ok (.invokestatic 46, 3) := by decide +kernel
theorem dX7_joins_32 : decode cX7_joins 32 = .ok (.ifCond .eq 35, 3) := by decide +kernel
theorem dX7_joins_35 : decode cX7_joins 35 = .ok (.aload_n 0, 1) := by decide +kernel
theorem dX7_joins_36 : decode cX7_joins 36 = .ok (.iload_n 1, 1) := by decide +kernel
theorem dX7_joins_37 : decode cX7_joins 37 = .ok (.bipush 64, 2) := by decide +kernel
theorem dX7_joins_39 : decode cX7_joins 39 = .ok (.idiv, 1) := by decide +kernel
theorem dX7_joins_40 : decode cX7_joins 40 = .ok (.iload 4, 2) := by decide +kernel
theorem dX7_joins_42 : decode cX7_joins 42 = .ok (.iconst (-1), 1) := by decide +kernel
theorem dX7_joins_43 : decode cX7_joins 43 = .ok (.ixor, 1) := by decide +kernel
theorem dX7_joins_44 : decode cX7_joins 44 = .ok (.iand, 1) := by decide +kernel
theorem dX7_joins_45 : decode cX7_joins 45 = .ok (.iload_n 2, 1) := by decide +kernel
theorem dX7_joins_46 : decode cX7_joins 46 = .ok (.bipush 64, 2) := by decide +kernel
theorem dX7_joins_48 : decode cX7_joins 48 = .ok (.idiv, 1) := by decide +kernel
theorem dX7_joins_49 : decode cX7_joins 49 = .ok (.ior, 1) := by decide +kernel
theorem dX7_joins_50 : decode cX7_joins 50 = .ok (.iload_n 1, 1) := by decide +kernel
theorem dX7_joins_51 : decode cX7_joins 51 = .ok (.bipush 64, 2) := by decide +kernel
theorem dX7_joins_53 : decode cX7_joins 53 = .ok (.irem, 1) := by decide +kernel
theorem dX7_joins_54 : decode cX7_joins 54 = .ok (.iload_n 2, 1) := by decide +kernel
theorem dX7_joins_55 : decode cX7_joins 55 = .ok (.bipush 64, 2) := by decide +kernel
theorem dX7_joins_57 : decode cX7_joins 57 = .ok (.irem, 1) := by decide +kernel
theorem dX7_joins_58 : decode cX7_joins 58 = .ok (.iload 4, 2) := by decide +kernel
theorem dX7_joins_60 : decode cX7_joins 60 = .ok (.iconst (-1), 1) := by decide +kernel
theorem dX7_joins_61 : decode cX7_joins 61 = .ok (.ixor, 1) := by decide +kernel
theorem dX7_joins_62 : decode cX7_joins 62 = .ok (.iand, 1) := by decide +kernel
theorem dX7_joins_63 : decode cX7_joins 63 = .ok (.ior, 1) := by decide +kernel
theorem dX7_joins_64 : decode cX7_joins 64 = .ok (.invokevirtual 177, 3) := by decide +kernel
theorem dX7_joins_67 : decode cX7_joins 67 = .ok (.iinc 3 1, 3) := by decide +kernel
theorem dX7_joins_70 : decode cX7_joins 70 = .ok (.goto (-68), 3) := by decide +kernel
theorem dX7_joins_73 : decode cX7_joins 73 = .ok (.return_, 1) := by decide +kernel
theorem dX7_closes_0 : decode cX7_closes 0 = .ok (.iconst 0, 1) := by decide +kernel
theorem dX7_closes_1 : decode cX7_closes 1 = .ok (.istore_n 2, 1) := by decide +kernel
theorem dX7_closes_2 : decode cX7_closes 2 = .ok (.iload_n 2, 1) := by decide +kernel
theorem dX7_closes_3 : decode cX7_closes 3 = .ok (.aload_n 0, 1) := by decide +kernel
theorem dX7_closes_4 : decode cX7_closes 4 = .ok (.getfield 174, 3) := by decide +kernel
theorem dX7_closes_7 : decode cX7_closes 7 = .ok (.if_icmp .ge 21, 3) := by decide +kernel
theorem dX7_closes_10 : decode cX7_closes 10 = .ok (.aload_n 0, 1) := by decide +kernel
theorem dX7_closes_11 : decode cX7_closes 11 = .ok (.getfield 24, 3) := by decide +kernel
theorem dX7_closes_14 : decode cX7_closes 14 = .ok (.aload_n 0, 1) := by decide +kernel
theorem dX7_closes_15 : decode cX7_closes 15 = .ok (.getfield 28, 3) := by decide +kernel
theorem dX7_closes_18 : decode cX7_closes 18 = .ok (.iload_n 2, 1) := by decide +kernel
theorem dX7_closes_19 : decode cX7_closes 19 = .ok (.iaload, 1) := by decide +kernel
theorem dX7_closes_20 : decode cX7_closes 20 = .ok (.iconst 0, 1) := by decide +kernel
theorem dX7_closes_21 : decode cX7_closes 21 = .ok (.bastore, 1) := by decide +kernel
theorem dX7_closes_22 : decode cX7_closes 22 = .ok (.iinc 2 1, 3) := by decide +kernel
theorem dX7_closes_25 : decode cX7_closes 25 = .ok (.goto (-23), 3) := by decide +kernel
theorem dX7_closes_28 : decode cX7_closes 28 = .ok (.aload_n 0, 1) := by decide +kernel
theorem dX7_closes_29 : decode cX7_closes 29 = .ok (.iconst 0, 1) := by decide +kernel
theorem dX7_closes_30 : decode cX7_closes 30 = .ok (.putfield 174, 3) := by decide +kernel
theorem dX7_closes_33 : decode cX7_closes 33 = .ok (.iconst 0, 1) := by decide +kernel
theorem dX7_closes_34 : decode cX7_closes 34 = .ok (.istore_n 2, 1) := by decide +kernel
theorem dX7_closes_35 : decode cX7_closes 35 = .ok (.iload_n 2, 1) := by decide +kernel
theorem dX7_closes_36 : decode cX7_closes 36 = .ok (.aload_n 0, 1) := by decide +kernel
theorem dX7_closes_37 : decode cX7_closes 37 = .ok (.getfield 7, 3) := by decide +kernel
theorem dX7_closes_40 : decode cX7_closes 40 = .ok (.iconst 0, 1) := by decide +kernel
theorem dX7_closes_41 : decode cX7_closes 41 = .ok (.iaload, 1) := by decide +kernel
theorem dX7_closes_42 : decode cX7_closes 42 = .ok (.if_icmp .ge 41, 3) := by decide +kernel
theorem dX7_closes_45 : decode cX7_closes 45 = .ok (.iload_n 1, 1) := by decide +kernel
theorem dX7_closes_46 : decode cX7_closes 46 = .ok (.iload_n 2, 1) := by decide +kernel
theorem dX7_closes_47 : decode cX7_closes 47 = .ok (.invokestatic 46, 3) := by decide +kernel
theorem dX7_closes_50 : decode cX7_closes 50 = .ok (.ifCond .eq 27, 3) := by decide +kernel
theorem dX7_closes_53 : decode cX7_closes 53 = .ok (.aload_n 0, 1) := by decide +kernel
theorem dX7_closes_54 : decode cX7_closes 54 = .ok (.aload_n 0, 1) := by decide +kernel
theorem dX7_closes_55 : decode cX7_closes 55 = .ok (.getfield 7, 3) := by decide +kernel
theorem dX7_closes_58 : decode cX7_closes 58 = .ok (.iload_n 2, 1) := by decide +kernel
theorem dX7_closes_59 : decode cX7_closes 59 = .ok (.invokestatic 52, 3) := by decide +kernel
theorem dX7_closes_62 : decode cX7_closes 62 = .ok (.iaload, 1) := by decide +kernel
theorem dX7_closes_63 : decode cX7_closes 63 = .ok (.aload_n 0, 1) := by decide +kernel
theorem dX7_closes_64 : decode cX7_closes 64 = .ok (.getfield 7, 3) := by decide +kernel
theorem dX7_closes_67 : decode cX7_closes 67 = .ok (.iload_n 2, 1) := by decide +kernel
theorem dX7_closes_68 : decode cX7_closes 68 = .ok (.invokestatic 52, 3) := by decide +kernel
theorem dX7_closes_71 : decode cX7_closes 71 = .ok (.iconst 1, 1) := by decide +kernel
theorem dX7_closes_72 : decode cX7_closes 72 = .ok (.iadd, 1) := by decide +kernel
theorem dX7_closes_73 : decode cX7_closes 73 = .ok (.iaload, 1) := by decide +kernel
theorem dX7_closes_74 : decode cX7_closes 74 = .ok (.invokevirtual 177, 3) := by decide +kernel
theorem dX7_closes_77 : decode cX7_closes 77 = .ok (.iinc 2 1, 3) := by decide +kernel
theorem dX7_closes_80 : decode cX7_closes 80 = .ok (.goto (-45), 3) := by decide +kernel
theorem dX7_closes_83 : decode cX7_closes 83 = .ok (.iconst 0, 1) := by decide +kernel
theorem dX7_closes_84 : decode cX7_closes 84 = .ok (.istore_n 2, 1) := by decide +kernel
theorem dX7_closes_85 : decode cX7_closes 85 = .ok (.iload_n 2, 1) := by decide +kernel
theorem dX7_closes_86 : decode cX7_closes 86 = .ok (.aload_n 0, 1) := by decide +kernel
theorem dX7_closes_87 : decode cX7_closes 87 = .ok (.getfield 174, 3) := by decide +kernel
theorem dX7_closes_90 : decode cX7_closes 90 = .ok (.if_icmp .ge 54, 3) := by decide +kernel
theorem dX7_closes_93 : decode cX7_closes 93 = .ok (.iconst 0, 1) := by decide +kernel
theorem dX7_closes_94 : decode cX7_closes 94 = .ok (.istore_n 3, 1) := by decide +kernel
theorem dX7_closes_95 : decode cX7_closes 95 = .ok (.iload_n 3, 1) := by decide +kernel
theorem dX7_closes_96 : decode cX7_closes 96 = .ok (.iload_n 2, 1) := by decide +kernel
theorem dX7_closes_97 : decode cX7_closes 97 = .ok (.if_icmp .ge 41, 3) := by decide +kernel
theorem dX7_closes_100 : decode cX7_closes 100 = .ok (.aload_n 0, 1) := by decide +kernel
theorem dX7_closes_101 : decode cX7_closes 101 = .ok (.aload_n 0, 1) := by decide +kernel
theorem dX7_closes_102 : decode cX7_closes 102 = .ok (.getfield 28, 3) := by decide +kernel
theorem dX7_closes_105 : decode cX7_closes 105 = .ok (.iload_n 2, 1) := by decide +kernel
theorem dX7_closes_106 : decode cX7_closes 106 = .ok (.iaload, 1) := by decide +kernel
theorem dX7_closes_107 : decode cX7_closes 107 = .ok (.aload_n 0, 1) := by decide +kernel
theorem dX7_closes_108 : decode cX7_closes 108 = .ok (.getfield 28, 3) := by decide +kernel
theorem dX7_closes_111 : decode cX7_closes 111 = .ok (.iload_n 3, 1) := by decide +kernel
theorem dX7_closes_112 : decode cX7_closes 112 = .ok (.iaload, 1) := by decide +kernel
theorem dX7_closes_113 : decode cX7_closes 113 = .ok (.invokevirtual 180, 3) := by decide +kernel
theorem dX7_closes_116 : decode cX7_closes 116 = .ok (.aload_n 0, 1) := by decide +kernel
theorem dX7_closes_117 : decode cX7_closes 117 = .ok (.aload_n 0, 1) := by decide +kernel
theorem dX7_closes_118 : decode cX7_closes 118 = .ok (.getfield 28, 3) := by decide +kernel
theorem dX7_closes_121 : decode cX7_closes 121 = .ok (.iload_n 3, 1) := by decide +kernel
theorem dX7_closes_122 : decode cX7_closes 122 = .ok (.iaload, 1) := by decide +kernel
theorem dX7_closes_123 : decode cX7_closes 123 = .ok (.aload_n 0, 1) := by decide +kernel
theorem dX7_closes_124 : decode cX7_closes 124 = .ok (.getfield 28, 3) := by decide +kernel
theorem dX7_closes_127 : decode cX7_closes 127 = .ok (.iload_n 2, 1) := by decide +kernel
theorem dX7_closes_128 : decode cX7_closes 128 = .ok (.iaload, 1) := by decide +kernel
theorem dX7_closes_129 : decode cX7_closes 129 = .ok (.invokevirtual 180, 3) := by decide +kernel
theorem dX7_closes_132 : decode cX7_closes 132 = .ok (.iinc 3 1, 3) := by decide +kernel
theorem dX7_closes_135 : decode cX7_closes 135 = .ok (.goto (-40), 3) := by decide +kernel
theorem dX7_closes_138 : decode cX7_closes 138 = .ok (.iinc 2 1, 3) := by decide +kernel
theorem dX7_closes_141 : decode cX7_closes 141 = .ok (.goto (-56), 3) := by decide +kernel
theorem dX7_closes_144 : decode cX7_closes 144 = .ok (.aload_n 0, 1) := by decide +kernel
theorem dX7_closes_145 : decode cX7_closes 145 = .ok (.getfield 174, 3) := by decide +kernel
theorem dX7_closes_148 : decode cX7_closes 148 = .ok (.ireturn, 1) := by decide +kernel
theorem dX7_standsByJoining_0 : decode cX7_standsByJoining 0 = .ok (.aload_n 0, 1) := by decide +kernel
theorem dX7_standsByJoining_1 : decode cX7_standsByJoining 1 = .ok (.iload_n 1, 1) := by decide +kernel
theorem dX7_standsByJoining_2 : decode cX7_standsByJoining 2 = .ok (.invokevirtual 183, 3) := by decide +kernel
theorem dX7_standsByJoining_5 : decode cX7_standsByJoining 5 = .ok (.pop, 1) := by decide +kernel
theorem dX7_standsByJoining_6 : decode cX7_standsByJoining 6 = .ok (.aload_n 0, 1) := by decide +kernel
theorem dX7_standsByJoining_7 : decode cX7_standsByJoining 7 = .ok (.getfield 24, 3) := by decide +kernel
theorem dX7_standsByJoining_10 : decode cX7_standsByJoining 10 = .ok (.iconst 0, 1) := by decide +kernel
theorem dX7_standsByJoining_11 : decode cX7_standsByJoining 11 = .ok (.baload, 1) := by decide +kernel
theorem dX7_standsByJoining_12 : decode cX7_standsByJoining 12 = .ok (.ifCond .ne 7, 3) := by decide +kernel
theorem dX7_standsByJoining_15 : decode cX7_standsByJoining 15 = .ok (.iconst 1, 1) := by decide +kernel
theorem dX7_standsByJoining_16 : decode cX7_standsByJoining 16 = .ok (.goto 4, 3) := by decide +kernel
theorem dX7_standsByJoining_19 : decode cX7_standsByJoining 19 = .ok (.iconst 0, 1) := by decide +kernel
theorem dX7_standsByJoining_20 : decode cX7_standsByJoining 20 = .ok (.ireturn, 1) := by decide +kernel
theorem dX7_canStand_0 : decode cX7_canStand 0 = .ok (.aload_n 0, 1) := by decide +kernel
theorem dX7_canStand_1 : decode cX7_canStand 1 = .ok (.aload_n 0, 1) := by decide +kernel
theorem dX7_canStand_2 : decode cX7_canStand 2 = .ok (.iload_n 1, 1) := by decide +kernel
theorem dX7_canStand_3 : decode cX7_canStand 3 = .ok (.invokevirtual 186, 3) := by decide +kernel
theorem dX7_canStand_6 : decode cX7_canStand 6 = .ok (.iconst 1, 1) := by decide +kernel
theorem dX7_canStand_7 : decode cX7_canStand 7 = .ok (.iconst 1, 1) := by decide +kernel
theorem dX7_canStand_8 : decode cX7_canStand 8 = .ok (.invokevirtual 69, 3) := by decide +kernel
theorem dX7_canStand_11 : decode cX7_canStand 11 = .ok (.ifCond .eq 15, 3) := by decide +kernel
theorem dX7_canStand_14 : decode cX7_canStand 14 = .ok (.aload_n 0, 1) := by decide +kernel
theorem dX7_canStand_15 : decode cX7_canStand 15 = .ok (.iload_n 1, 1) := by decide +kernel
theorem dX7_canStand_16 : decode cX7_canStand 16 = .ok (.invokevirtual 189, 3) := by decide +kernel
theorem dX7_canStand_19 : decode cX7_canStand 19 = .ok (.ifCond .eq 7, 3) := by decide +kernel
theorem dX7_canStand_22 : decode cX7_canStand 22 = .ok (.iconst 1, 1) := by decide +kernel
theorem dX7_canStand_23 : decode cX7_canStand 23 = .ok (.goto 4, 3) := by decide +kernel
theorem dX7_canStand_26 : decode cX7_canStand 26 = .ok (.iconst 0, 1) := by decide +kernel
theorem dX7_canStand_27 : decode cX7_canStand 27 = .ok (.ireturn, 1) := by decide +kernel
theorem dX7_canStandBySplitting_0 : decode cX7_canStandBySplitting 0 = .ok (.aload_n 0, 1) := by decide +kernel
theorem dX7_canStandBySplitting_1 : decode cX7_canStandBySplitting 1 = .ok (.aload_n 0, 1) := by decide +kernel
theorem dX7_canStandBySplitting_2 : decode cX7_canStandBySplitting 2 = .ok (.iload_n 1, 1) := by decide +kernel
theorem dX7_canStandBySplitting_3 : decode cX7_canStandBySplitting 3 = .ok (.invokevirtual 186, 3) := by decide +kernel
theorem dX7_canStandBySplitting_6 : decode cX7_canStandBySplitting 6 = .ok (.iconst 1, 1) := by decide +kernel
theorem dX7_canStandBySplitting_7 : decode cX7_canStandBySplitting 7 = .ok (.iconst 1, 1) := by decide +kernel
theorem dX7_canStandBySplitting_8 : decode cX7_canStandBySplitting 8 = .ok (.invokevirtual 69, 3) := by decide +kernel
theorem dX7_canStandBySplitting_11 : decode cX7_canStandBySplitting 11 = .ok (.ifCond .eq 15, 3) := by decide +kernel
theorem dX7_canStandBySplitting_14 : decode cX7_canStandBySplitting 14 = .ok (.aload_n 0, 1) := by decide +kernel
theorem dX7_canStandBySplitting_15 : decode cX7_canStandBySplitting 15 = .ok (.iload_n 1, 1) := by decide +kernel
theorem dX7_canStandBySplitting_16 : decode cX7_canStandBySplitting 16 = .ok (.invokevirtual 192, 3) := by decide +kernel
theorem dX7_canStandBySplitting_19 : decode cX7_canStandBySplitting 19 = .ok (.ifCond .eq 7, 3) := by decide +kernel
theorem dX7_canStandBySplitting_22 : decode cX7_canStandBySplitting 22 = .ok (.iconst 1, 1) := by decide +kernel
theorem dX7_canStandBySplitting_23 : decode cX7_canStandBySplitting 23 = .ok (.goto 4, 3) := by decide +kernel
theorem dX7_canStandBySplitting_26 : decode cX7_canStandBySplitting 26 = .ok (.iconst 0, 1) := by decide +kernel
theorem dX7_canStandBySplitting_27 : decode cX7_canStandBySplitting 27 = .ok (.ireturn, 1) := by decide +kernel
theorem dX7_canStandByJoining_0 : decode cX7_canStandByJoining 0 = .ok (.aload_n 0, 1) := by decide +kernel
theorem dX7_canStandByJoining_1 : decode cX7_canStandByJoining 1 = .ok (.aload_n 0, 1) := by decide +kernel
theorem dX7_canStandByJoining_2 : decode cX7_canStandByJoining 2 = .ok (.iload_n 1, 1) := by decide +kernel
theorem dX7_canStandByJoining_3 : decode cX7_canStandByJoining 3 = .ok (.invokevirtual 186, 3) := by decide +kernel
theorem dX7_canStandByJoining_6 : decode cX7_canStandByJoining 6 = .ok (.iconst 1, 1) := by decide +kernel
theorem dX7_canStandByJoining_7 : decode cX7_canStandByJoining 7 = .ok (.iconst 1, 1) := by decide +kernel
theorem dX7_canStandByJoining_8 : decode cX7_canStandByJoining 8 = .ok (.invokevirtual 69, 3) := by decide +kernel
theorem dX7_canStandByJoining_11 : decode cX7_canStandByJoining 11 = .ok (.ifCond .eq 15, 3) := by decide +kernel
theorem dX7_canStandByJoining_14 : decode cX7_canStandByJoining 14 = .ok (.aload_n 0, 1) := by decide +kernel
theorem dX7_canStandByJoining_15 : decode cX7_canStandByJoining 15 = .ok (.iload_n 1, 1) := by decide +kernel
theorem dX7_canStandByJoining_16 : decode cX7_canStandByJoining 16 = .ok (.invokevirtual 195, 3) := by decide +kernel
theorem dX7_canStandByJoining_19 : decode cX7_canStandByJoining 19 = .ok (.ifCond .eq 7, 3) := by decide +kernel
theorem dX7_canStandByJoining_22 : decode cX7_canStandByJoining 22 = .ok (.iconst 1, 1) := by decide +kernel
theorem dX7_canStandByJoining_23 : decode cX7_canStandByJoining 23 = .ok (.goto 4, 3) := by decide +kernel
theorem dX7_canStandByJoining_26 : decode cX7_canStandByJoining 26 = .ok (.iconst 0, 1) := by decide +kernel
theorem dX7_canStandByJoining_27 : decode cX7_canStandByJoining 27 = .ok (.ireturn, 1) := by decide +kernel
theorem dX7_joined_0 : decode cX7_joined 0 = .ok (.aload_n 0, 1) := by decide +kernel
theorem dX7_joined_1 : decode cX7_joined 1 = .ok (.aload_n 0, 1) := by decide +kernel
theorem dX7_joined_2 : decode cX7_joined 2 = .ok (.iload_n 1, 1) := by decide +kernel
theorem dX7_joined_3 : decode cX7_joined 3 = .ok (.invokevirtual 186, 3) := by decide +kernel
theorem dX7_joined_6 : decode cX7_joined 6 = .ok (.iconst 1, 1) := by decide +kernel
theorem dX7_joined_7 : decode cX7_joined 7 = .ok (.iconst 1, 1) := by decide +kernel
theorem dX7_joined_8 : decode cX7_joined 8 = .ok (.invokevirtual 69, 3) := by decide +kernel
theorem dX7_joined_11 : decode cX7_joined 11 = .ok (.ifCond .eq 11, 3) := by decide +kernel
theorem dX7_joined_14 : decode cX7_joined 14 = .ok (.aload_n 0, 1) := by decide +kernel
theorem dX7_joined_15 : decode cX7_joined 15 = .ok (.iload_n 1, 1) := by decide +kernel
theorem dX7_joined_16 : decode cX7_joined 16 = .ok (.invokevirtual 183, 3) := by decide +kernel
theorem dX7_joined_19 : decode cX7_joined 19 = .ok (.goto 4, 3) := by decide +kernel
theorem dX7_joined_22 : decode cX7_joined 22 = .ok (.iconst 0, 1) := by decide +kernel
theorem dX7_joined_23 : decode cX7_joined 23 = .ok (.ireturn, 1) := by decide +kernel
theorem dX7_peace_0 : decode cX7_peace 0 = .ok (.aload_n 0, 1) := by decide +kernel
theorem dX7_peace_1 : decode cX7_peace 1 = .ok (.invokevirtual 167, 3) := by decide +kernel
theorem dX7_peace_4 : decode cX7_peace 4 = .ok (.aload_n 0, 1) := by decide +kernel
theorem dX7_peace_5 : decode cX7_peace 5 = .ok (.aload_n 0, 1) := by decide +kernel
theorem dX7_peace_6 : decode cX7_peace 6 = .ok (.invokevirtual 160, 3) := by decide +kernel
theorem dX7_peace_9 : decode cX7_peace 9 = .ok (.invokevirtual 170, 3) := by decide +kernel
theorem dX7_peace_12 : decode cX7_peace 12 = .ok (.lreturn, 1) := by decide +kernel
theorem dX7_ways_0 : decode cX7_ways 0 = .ok (.aload_n 0, 1) := by decide +kernel
theorem dX7_ways_1 : decode cX7_ways 1 = .ok (.iconst 0, 1) := by decide +kernel
theorem dX7_ways_2 : decode cX7_ways 2 = .ok (.putfield 31, 3) := by decide +kernel
theorem dX7_ways_5 : decode cX7_ways 5 = .ok (.aload_n 0, 1) := by decide +kernel
theorem dX7_ways_6 : decode cX7_ways 6 = .ok (.invokevirtual 198, 3) := by decide +kernel
theorem dX7_ways_9 : decode cX7_ways 9 = .ok (.invokestatic 202, 3) := by decide +kernel
theorem dX7_ways_12 : decode cX7_ways 12 = .ok (.ireturn, 1) := by decide +kernel
theorem dX7_waysSplit_0 : decode cX7_waysSplit 0 = .ok (.iconst 0, 1) := by decide +kernel
theorem dX7_waysSplit_1 : decode cX7_waysSplit 1 = .ok (.istore_n 1, 1) := by decide +kernel
theorem dX7_waysSplit_2 : decode cX7_waysSplit 2 = .ok (.iconst 0, 1) := by decide +kernel
theorem dX7_waysSplit_3 : decode cX7_waysSplit 3 = .ok (.istore_n 2, 1) := by decide +kernel
theorem dX7_waysSplit_4 : decode cX7_waysSplit 4 = .ok (.iload_n 2, 1) := by decide +kernel
theorem dX7_waysSplit_5 : decode cX7_waysSplit 5 = .ok (.bipush 64, 2) := by decide +kernel
theorem dX7_waysSplit_7 : decode cX7_waysSplit 7 = .ok (.if_icmp .ge 25, 3) := by decide +kernel
theorem dX7_waysSplit_10 : decode cX7_waysSplit 10 = .ok (.iload_n 1, 1) := by decide +kernel
theorem dX7_waysSplit_11 : decode cX7_waysSplit 11 = .ok (.aload_n 0, 1) := by decide +kernel
theorem dX7_waysSplit_12 : decode cX7_waysSplit 12 = .ok (.iload_n 2, 1) := by decide +kernel
theorem dX7_waysSplit_13 : decode cX7_waysSplit 13 = .ok (.invokevirtual 104, 3) := by decide +kernel
theorem dX7_waysSplit_16 : decode cX7_waysSplit 16 = .ok (.ifCond .ne 7, 3) := by decide +kernel
theorem dX7_waysSplit_19 : decode cX7_waysSplit 19 = .ok (.iconst 1, 1) := by decide +kernel
theorem dX7_waysSplit_20 : decode cX7_waysSplit 20 = .ok (.goto 4, 3) := by decide +kernel
theorem dX7_waysSplit_23 : decode cX7_waysSplit 23 = .ok (.iconst 0, 1) := by decide +kernel
theorem dX7_waysSplit_24 : decode cX7_waysSplit 24 = .ok (.iadd, 1) := by decide +kernel
theorem dX7_waysSplit_25 : decode cX7_waysSplit 25 = .ok (.istore_n 1, 1) := by decide +kernel
theorem dX7_waysSplit_26 : decode cX7_waysSplit 26 = .ok (.iinc 2 1, 3) := by decide +kernel
theorem dX7_waysSplit_29 : decode cX7_waysSplit 29 = .ok (.goto (-25), 3) := by decide +kernel
theorem dX7_waysSplit_32 : decode cX7_waysSplit 32 = .ok (.iload_n 1, 1) := by decide +kernel
theorem dX7_waysSplit_33 : decode cX7_waysSplit 33 = .ok (.ireturn, 1) := by decide +kernel
theorem dX7_waysBySplitting_0 : decode cX7_waysBySplitting 0 = .ok (.aload_n 0, 1) := by decide +kernel
theorem dX7_waysBySplitting_1 : decode cX7_waysBySplitting 1 = .ok (.iconst 0, 1) := by decide +kernel
theorem dX7_waysBySplitting_2 : decode cX7_waysBySplitting 2 = .ok (.putfield 31, 3) := by decide +kernel
theorem dX7_waysBySplitting_5 : decode cX7_waysBySplitting 5 = .ok (.aload_n 0, 1) := by decide +kernel
theorem dX7_waysBySplitting_6 : decode cX7_waysBySplitting 6 = .ok (.invokevirtual 206, 3) := by decide +kernel
theorem dX7_waysBySplitting_9 : decode cX7_waysBySplitting 9 = .ok (.ireturn, 1) := by decide +kernel
theorem dX7_least_0 : decode cX7_least 0 = .ok (.iconst (-1), 1) := by decide +kernel
theorem dX7_least_1 : decode cX7_least 1 = .ok (.istore_n 3, 1) := by decide +kernel
theorem dX7_least_2 : decode cX7_least 2 = .ok (.bipush 63, 2) := by decide +kernel
theorem dX7_least_4 : decode cX7_least 4 = .ok (.istore 4, 2) := by decide +kernel
theorem dX7_least_6 : decode cX7_least 6 = .ok (.iload 4, 2) := by decide +kernel
theorem dX7_least_8 : decode cX7_least 8 = .ok (.ifCond .lt 27, 3) := by decide +kernel
theorem dX7_least_11 : decode cX7_least 11 = .ok (.lload_n 1, 1) := by decide +kernel
theorem dX7_least_12 : decode cX7_least 12 = .ok (.iload 4, 2) := by decide +kernel
theorem dX7_least_14 : decode cX7_least 14 = .ok (.lushr, 1) := by decide +kernel
theorem dX7_least_15 : decode cX7_least 15 = .ok (.lconst 1, 1) := by decide +kernel
theorem dX7_least_16 : decode cX7_least 16 = .ok (.land, 1) := by decide +kernel
theorem dX7_least_17 : decode cX7_least 17 = .ok (.lconst 1, 1) := by decide +kernel
theorem dX7_least_18 : decode cX7_least 18 = .ok (.lcmp, 1) := by decide +kernel
theorem dX7_least_19 : decode cX7_least 19 = .ok (.ifCond .ne 8, 3) := by decide +kernel
theorem dX7_least_22 : decode cX7_least 22 = .ok (.iload 4, 2) := by decide +kernel
theorem dX7_least_24 : decode cX7_least 24 = .ok (.goto 4, 3) := by decide +kernel
theorem dX7_least_27 : decode cX7_least 27 = .ok (.iload_n 3, 1) := by decide +kernel
theorem dX7_least_28 : decode cX7_least 28 = .ok (.istore_n 3, 1) := by decide +kernel
theorem dX7_least_29 : decode cX7_least 29 = .ok (.iinc 4 (-1), 3) := by decide +kernel
theorem dX7_least_32 : decode cX7_least 32 = .ok (.goto (-26), 3) := by decide +kernel
theorem dX7_least_35 : decode cX7_least 35 = .ok (.iload_n 3, 1) := by decide +kernel
theorem dX7_least_36 : decode cX7_least 36 = .ok (.ireturn, 1) := by decide +kernel
theorem dX7_firstWay_0 : decode cX7_firstWay 0 = .ok (.aload_n 0, 1) := by decide +kernel
theorem dX7_firstWay_1 : decode cX7_firstWay 1 = .ok (.iconst 0, 1) := by decide +kernel
theorem dX7_firstWay_2 : decode cX7_firstWay 2 = .ok (.putfield 31, 3) := by decide +kernel
theorem dX7_firstWay_5 : decode cX7_firstWay 5 = .ok (.aload_n 0, 1) := by decide +kernel
theorem dX7_firstWay_6 : decode cX7_firstWay 6 = .ok (.aload_n 0, 1) := by decide +kernel
theorem dX7_firstWay_7 : decode cX7_firstWay 7 = .ok (.invokevirtual 198, 3) := by decide +kernel
theorem dX7_firstWay_10 : decode cX7_firstWay 10 = .ok (.invokevirtual 209, 3) := by decide +kernel
theorem dX7_firstWay_13 : decode cX7_firstWay 13 = .ok (.ireturn, 1) := by decide +kernel
theorem dX7_alike_0 : decode cX7_alike 0 = .ok (.aload_n 0, 1) := by decide +kernel
theorem dX7_alike_1 : decode cX7_alike 1 = .ok (.invokevirtual 198, 3) := by decide +kernel
theorem dX7_alike_4 : decode cX7_alike 4 = .ok (.lstore_n 2, 1) := by decide +kernel
theorem dX7_alike_5 : decode cX7_alike 5 = .ok (.lload_n 2, 1) := by decide +kernel
theorem dX7_alike_6 : decode cX7_alike 6 = .ok (.lconst 0, 1) := by decide +kernel
theorem dX7_alike_7 : decode cX7_alike 7 = .ok (.lcmp, 1) := by decide +kernel
theorem dX7_alike_8 : decode cX7_alike 8 = .ok (.ifCond .ne 7, 3) := by decide +kernel
theorem dX7_alike_11 : decode cX7_alike 11 = .ok (.iconst (-1), 1) := by decide +kernel
theorem dX7_alike_12 : decode cX7_alike 12 = .ok (.goto 42, 3) := by decide +kernel
theorem dX7_alike_15 : decode cX7_alike 15 = .ok (.lload_n 2, 1) := by decide +kernel
theorem dX7_alike_16 : decode cX7_alike 16 = .ok (.aload_n 0, 1) := by decide +kernel
theorem dX7_alike_17 : decode cX7_alike 17 = .ok (.getfield 17, 3) := by decide +kernel
theorem dX7_alike_20 : decode cX7_alike 20 = .ok (.iload_n 1, 1) := by decide +kernel
theorem dX7_alike_21 : decode cX7_alike 21 = .ok (.laload, 1) := by decide +kernel
theorem dX7_alike_22 : decode cX7_alike 22 = .ok (.ldc2_w 50, 3) := by decide +kernel
theorem dX7_alike_25 : decode cX7_alike 25 = .ok (.lxor, 1) := by decide +kernel
theorem dX7_alike_26 : decode cX7_alike 26 = .ok (.land, 1) := by decide +kernel
theorem dX7_alike_27 : decode cX7_alike 27 = .ok (.lconst 0, 1) := by decide +kernel
theorem dX7_alike_28 : decode cX7_alike 28 = .ok (.lcmp, 1) := by decide +kernel
theorem dX7_alike_29 : decode cX7_alike 29 = .ok (.ifCond .ne 7, 3) := by decide +kernel
theorem dX7_alike_32 : decode cX7_alike 32 = .ok (.iconst 1, 1) := by decide +kernel
theorem dX7_alike_33 : decode cX7_alike 33 = .ok (.goto 21, 3) := by decide +kernel
theorem dX7_alike_36 : decode cX7_alike 36 = .ok (.lload_n 2, 1) := by decide +kernel
theorem dX7_alike_37 : decode cX7_alike 37 = .ok (.aload_n 0, 1) := by decide +kernel
theorem dX7_alike_38 : decode cX7_alike 38 = .ok (.getfield 17, 3) := by decide +kernel
theorem dX7_alike_41 : decode cX7_alike 41 = .ok (.iload_n 1, 1) := by decide +kernel
theorem dX7_alike_42 : decode cX7_alike 42 = .ok (.laload, 1) := by decide +kernel
theorem dX7_alike_43 : decode cX7_alike 43 = .ok (.land, 1) := by decide +kernel
theorem dX7_alike_44 : decode cX7_alike 44 = .ok (.lconst 0, 1) := by decide +kernel
theorem dX7_alike_45 : decode cX7_alike 45 = .ok (.lcmp, 1) := by decide +kernel
theorem dX7_alike_46 : decode cX7_alike 46 = .ok (.ifCond .ne 7, 3) := by decide +kernel
theorem dX7_alike_49 : decode cX7_alike 49 = .ok (.iconst 0, 1) := by decide +kernel
theorem dX7_alike_50 : decode cX7_alike 50 = .ok (.goto 4, 3) := by decide +kernel
theorem dX7_alike_53 : decode cX7_alike 53 = .ok (.iconst 2, 1) := by decide +kernel
theorem dX7_alike_54 : decode cX7_alike 54 = .ok (.ireturn, 1) := by decide +kernel
theorem dX7_forced_0 : decode cX7_forced 0 = .ok (.aload_n 0, 1) := by decide +kernel
theorem dX7_forced_1 : decode cX7_forced 1 = .ok (.iload_n 1, 1) := by decide +kernel
theorem dX7_forced_2 : decode cX7_forced 2 = .ok (.invokestatic 88, 3) := by decide +kernel
theorem dX7_forced_5 : decode cX7_forced 5 = .ok (.iconst 1, 1) := by decide +kernel
theorem dX7_forced_6 : decode cX7_forced 6 = .ok (.iconst 1, 1) := by decide +kernel
theorem dX7_forced_7 : decode cX7_forced 7 = .ok (.invokevirtual 69, 3) := by decide +kernel
theorem dX7_forced_10 : decode cX7_forced 10 = .ok (.ifCond .eq 11, 3) := by decide +kernel
theorem dX7_forced_13 : decode cX7_forced 13 = .ok (.aload_n 0, 1) := by decide +kernel
theorem dX7_forced_14 : decode cX7_forced 14 = .ok (.iload_n 1, 1) := by decide +kernel
theorem dX7_forced_15 : decode cX7_forced 15 = .ok (.invokevirtual 212, 3) := by decide +kernel
theorem dX7_forced_18 : decode cX7_forced 18 = .ok (.goto 4, 3) := by decide +kernel
theorem dX7_forced_21 : decode cX7_forced 21 = .ok (.iconst 0, 1) := by decide +kernel
theorem dX7_forced_22 : decode cX7_forced 22 = .ok (.ireturn, 1) := by decide +kernel
theorem dX7_comesOf_0 : decode cX7_comesOf 0 = .ok (.aload_n 0, 1) := by decide +kernel
theorem dX7_comesOf_1 : decode cX7_comesOf 1 = .ok (.invokevirtual 167, 3) := by decide +kernel
theorem dX7_comesOf_4 : decode cX7_comesOf 4 = .ok (.aload_n 0, 1) := by decide +kernel
theorem dX7_comesOf_5 : decode cX7_comesOf 5 = .ok (.invokevirtual 160, 3) := by decide +kernel
theorem dX7_comesOf_8 : decode cX7_comesOf 8 = .ok (.iconst 1, 1) := by decide +kernel
theorem dX7_comesOf_9 : decode cX7_comesOf 9 = .ok (.iload_n 1, 1) := by decide +kernel
theorem dX7_comesOf_10 : decode cX7_comesOf 10 = .ok (.ishl, 1) := by decide +kernel
theorem dX7_comesOf_11 : decode cX7_comesOf 11 = .ok (.iconst (-1), 1) := by decide +kernel
theorem dX7_comesOf_12 : decode cX7_comesOf 12 = .ok (.ixor, 1) := by decide +kernel
theorem dX7_comesOf_13 : decode cX7_comesOf 13 = .ok (.iand, 1) := by decide +kernel
theorem dX7_comesOf_14 : decode cX7_comesOf 14 = .ok (.istore_n 2, 1) := by decide +kernel
theorem dX7_comesOf_15 : decode cX7_comesOf 15 = .ok (.aload_n 0, 1) := by decide +kernel
theorem dX7_comesOf_16 : decode cX7_comesOf 16 = .ok (.iload_n 1, 1) := by decide +kernel
theorem dX7_comesOf_17 : decode cX7_comesOf 17 = .ok (.aload_n 0, 1) := by decide +kernel
theorem dX7_comesOf_18 : decode cX7_comesOf 18 = .ok (.getfield 7, 3) := by decide +kernel
theorem dX7_comesOf_21 : decode cX7_comesOf 21 = .ok (.iconst 2, 1) := by decide +kernel
theorem dX7_comesOf_22 : decode cX7_comesOf 22 = .ok (.iaload, 1) := by decide +kernel
theorem dX7_comesOf_23 : decode cX7_comesOf 23 = .ok (.invokevirtual 60, 3) := by decide +kernel
theorem dX7_comesOf_26 : decode cX7_comesOf 26 = .ok (.ifCond .eq 28, 3) := by decide +kernel
theorem dX7_comesOf_29 : decode cX7_comesOf 29 = .ok (.aload_n 0, 1) := by decide +kernel
theorem dX7_comesOf_30 : decode cX7_comesOf 30 = .ok (.iload_n 2, 1) := by decide +kernel
theorem dX7_comesOf_31 : decode cX7_comesOf 31 = .ok (.invokevirtual 170, 3) := by decide +kernel
theorem dX7_comesOf_34 : decode cX7_comesOf 34 = .ok (.aload_n 0, 1) := by decide +kernel
theorem dX7_comesOf_35 : decode cX7_comesOf 35 = .ok (.getfield 21, 3) := by decide +kernel
theorem dX7_comesOf_38 : decode cX7_comesOf 38 = .ok (.iload_n 1, 1) := by decide +kernel
theorem dX7_comesOf_39 : decode cX7_comesOf 39 = .ok (.laload, 1) := by decide +kernel
theorem dX7_comesOf_40 : decode cX7_comesOf 40 = .ok (.ldc2_w 50, 3) := by decide +kernel
theorem dX7_comesOf_43 : decode cX7_comesOf 43 = .ok (.lxor, 1) := by decide +kernel
theorem dX7_comesOf_44 : decode cX7_comesOf 44 = .ok (.land, 1) := by decide +kernel
theorem dX7_comesOf_45 : decode cX7_comesOf 45 = .ok (.lconst 0, 1) := by decide +kernel
theorem dX7_comesOf_46 : decode cX7_comesOf 46 = .ok (.lcmp, 1) := by decide +kernel
theorem dX7_comesOf_47 : decode cX7_comesOf 47 = .ok (.ifCond .ne 7, 3) := by decide +kernel
theorem dX7_comesOf_50 : decode cX7_comesOf 50 = .ok (.iconst 1, 1) := by decide +kernel
theorem dX7_comesOf_51 : decode cX7_comesOf 51 = .ok (.goto 4, 3) := by decide +kernel
theorem dX7_comesOf_54 : decode cX7_comesOf 54 = .ok (.iconst 0, 1) := by decide +kernel
theorem dX7_comesOf_55 : decode cX7_comesOf 55 = .ok (.ireturn, 1) := by decide +kernel
theorem dX7_comesBySplitting_0 : decode cX7_comesBySplitting 0 = .ok (.aload_n 0, 1) := by decide +kernel
theorem dX7_comesBySplitting_1 : decode cX7_comesBySplitting 1 = .ok (.iload_n 1, 1) := by decide +kernel
theorem dX7_comesBySplitting_2 : decode cX7_comesBySplitting 2 = .ok (.aload_n 0, 1) := by decide +kernel
theorem dX7_comesBySplitting_3 : decode cX7_comesBySplitting 3 = .ok (.getfield 7, 3) := by decide +kernel
theorem dX7_comesBySplitting_6 : decode cX7_comesBySplitting 6 = .ok (.iconst 2, 1) := by decide +kernel
theorem dX7_comesBySplitting_7 : decode cX7_comesBySplitting 7 = .ok (.iaload, 1) := by decide +kernel
theorem dX7_comesBySplitting_8 : decode cX7_comesBySplitting 8 = .ok (.invokevirtual 60, 3) := by decide +kernel
theorem dX7_comesBySplitting_11 : decode cX7_comesBySplitting 11 = .ok (.istore_n 2, 1) := by decide +kernel
theorem dX7_comesBySplitting_12 : decode cX7_comesBySplitting 12 = .ok (.iconst 0, 1) := by decide +kernel
theorem dX7_comesBySplitting_13 : decode cX7_comesBySplitting 13 = .ok (.istore_n 3, 1) := by decide +kernel
theorem dX7_comesBySplitting_14 : decode cX7_comesBySplitting 14 = .ok (.iload_n 3, 1) := by decide +kernel
theorem dX7_comesBySplitting_15 : decode cX7_comesBySplitting 15 = .ok (.bipush 64, 2) := by decide +kernel
theorem dX7_comesBySplitting_17 : decode cX7_comesBySplitting 17 = .ok (.if_icmp .ge 30, 3) := by decide +kernel
theorem dX7_comesBySplitting_20 : decode cX7_comesBySplitting 20 = .ok (.iload_n 2, 1) := by decide +kernel
theorem dX7_comesBySplitting_21 : decode cX7_comesBySplitting 21 = .ok (.ifCond .eq 18, 3) := by decide +kernel
theorem dX7_comesBySplitting_24 : decode cX7_comesBySplitting 24 = .ok (.aload_n 0, 1) := by decide +kernel
theorem dX7_comesBySplitting_25 : decode cX7_comesBySplitting 25 = .ok (.iload_n 3, 1) := by decide +kernel
theorem dX7_comesBySplitting_26 : decode cX7_comesBySplitting 26 = .ok (.invokevirtual 104, 3) := by decide +kernel
theorem dX7_comesBySplitting_29 : decode cX7_comesBySplitting 29 = .ok (.iconst 1, 1) := by decide +kernel
theorem dX7_comesBySplitting_30 : decode cX7_comesBySplitting 30 = .ok (.iload_n 1, 1) := by decide +kernel
theorem dX7_comesBySplitting_31 : decode cX7_comesBySplitting 31 = .ok (.ishl, 1) := by decide +kernel
theorem dX7_comesBySplitting_32 : decode cX7_comesBySplitting 32 = .ok (.if_icmp .eq 7, 3) := by decide +kernel
theorem dX7_comesBySplitting_35 : decode cX7_comesBySplitting 35 = .ok (.iconst 1, 1) := by decide +kernel
theorem dX7_comesBySplitting_36 : decode cX7_comesBySplitting 36 = .ok (.goto 4, 3) := by decide +kernel
theorem dX7_comesBySplitting_39 : decode cX7_comesBySplitting 39 = .ok (.iconst 0, 1) := by decide +kernel
theorem dX7_comesBySplitting_40 : decode cX7_comesBySplitting 40 = .ok (.istore_n 2, 1) := by decide +kernel
theorem dX7_comesBySplitting_41 : decode cX7_comesBySplitting 41 = .ok (.iinc 3 1, 3) := by decide +kernel
theorem dX7_comesBySplitting_44 : decode cX7_comesBySplitting 44 = .ok (.goto (-30), 3) := by decide +kernel
theorem dX7_comesBySplitting_47 : decode cX7_comesBySplitting 47 = .ok (.iload_n 2, 1) := by decide +kernel
theorem dX7_comesBySplitting_48 : decode cX7_comesBySplitting 48 = .ok (.ireturn, 1) := by decide +kernel
theorem dX7_follows_0 : decode cX7_follows 0 = .ok (.aload_n 0, 1) := by decide +kernel
theorem dX7_follows_1 : decode cX7_follows 1 = .ok (.aload_n 0, 1) := by decide +kernel
theorem dX7_follows_2 : decode cX7_follows 2 = .ok (.iload_n 1, 1) := by decide +kernel
theorem dX7_follows_3 : decode cX7_follows 3 = .ok (.invokevirtual 80, 3) := by decide +kernel
theorem dX7_follows_6 : decode cX7_follows 6 = .ok (.iconst 1, 1) := by decide +kernel
theorem dX7_follows_7 : decode cX7_follows 7 = .ok (.iconst 1, 1) := by decide +kernel
theorem dX7_follows_8 : decode cX7_follows 8 = .ok (.invokevirtual 69, 3) := by decide +kernel
theorem dX7_follows_11 : decode cX7_follows 11 = .ok (.ifCond .eq 15, 3) := by decide +kernel
theorem dX7_follows_14 : decode cX7_follows 14 = .ok (.aload_n 0, 1) := by decide +kernel
theorem dX7_follows_15 : decode cX7_follows 15 = .ok (.iload_n 1, 1) := by decide +kernel
theorem dX7_follows_16 : decode cX7_follows 16 = .ok (.invokevirtual 215, 3) := by decide +kernel
theorem dX7_follows_19 : decode cX7_follows 19 = .ok (.ifCond .eq 7, 3) := by decide +kernel
theorem dX7_follows_22 : decode cX7_follows 22 = .ok (.iconst 1, 1) := by decide +kernel
theorem dX7_follows_23 : decode cX7_follows 23 = .ok (.goto 4, 3) := by decide +kernel
theorem dX7_follows_26 : decode cX7_follows 26 = .ok (.iconst 0, 1) := by decide +kernel
theorem dX7_follows_27 : decode cX7_follows 27 = .ok (.ireturn, 1) := by decide +kernel
theorem dX7_followsBySplitting_0 : decode cX7_followsBySplitting 0 = .ok (.aload_n 0, 1) := by decide +kernel
theorem dX7_followsBySplitting_1 : decode cX7_followsBySplitting 1 = .ok (.aload_n 0, 1) := by decide +kernel
theorem dX7_followsBySplitting_2 : decode cX7_followsBySplitting 2 = .ok (.iload_n 1, 1) := by decide +kernel
theorem dX7_followsBySplitting_3 : decode cX7_followsBySplitting 3 = .ok (.invokevirtual 80, 3) := by decide +kernel
theorem dX7_followsBySplitting_6 : decode cX7_followsBySplitting 6 = .ok (.iconst 1, 1) := by decide +kernel
theorem dX7_followsBySplitting_7 : decode cX7_followsBySplitting 7 = .ok (.iconst 1, 1) := by decide +kernel
theorem dX7_followsBySplitting_8 : decode cX7_followsBySplitting 8 = .ok (.invokevirtual 69, 3) := by decide +kernel
theorem dX7_followsBySplitting_11 : decode cX7_followsBySplitting 11 = .ok (.ifCond .eq 15, 3) := by decide +kernel
theorem dX7_followsBySplitting_14 : decode cX7_followsBySplitting 14 = .ok (.aload_n 0, 1) := by decide +kernel
theorem dX7_followsBySplitting_15 : decode cX7_followsBySplitting 15 = .ok (.iload_n 1, 1) := by decide +kernel
theorem dX7_followsBySplitting_16 : decode cX7_followsBySplitting 16 = .ok (.invokevirtual 218, 3) := by decide +kernel
theorem dX7_followsBySplitting_19 : decode cX7_followsBySplitting 19 = .ok (.ifCond .eq 7, 3) := by decide +kernel
theorem dX7_followsBySplitting_22 : decode cX7_followsBySplitting 22 = .ok (.iconst 1, 1) := by decide +kernel
theorem dX7_followsBySplitting_23 : decode cX7_followsBySplitting 23 = .ok (.goto 4, 3) := by decide +kernel
theorem dX7_followsBySplitting_26 : decode cX7_followsBySplitting 26 = .ok (.iconst 0, 1) := by decide +kernel
theorem dX7_followsBySplitting_27 : decode cX7_followsBySplitting 27 = .ok (.ireturn, 1) := by decide +kernel
theorem dX7_isWithin_0 : decode cX7_isWithin 0 = .ok (.iload_n 1, 1) := by decide +kernel
theorem dX7_isWithin_1 : decode cX7_isWithin 1 = .ok (.iload_n 2, 1) := by decide +kernel
theorem dX7_isWithin_2 : decode cX7_isWithin 2 = .ok (.iconst (-1), 1) := by decide +kernel
theorem dX7_isWithin_3 : decode cX7_isWithin 3 = .ok (.ixor, 1) := by decide +kernel
theorem dX7_isWithin_4 : decode cX7_isWithin 4 = .ok (.iand, 1) := by decide +kernel
theorem dX7_isWithin_5 : decode cX7_isWithin 5 = .ok (.ifCond .ne 7, 3) := by decide +kernel
theorem dX7_isWithin_8 : decode cX7_isWithin 8 = .ok (.iconst 1, 1) := by decide +kernel
theorem dX7_isWithin_9 : decode cX7_isWithin 9 = .ok (.goto 4, 3) := by decide +kernel
theorem dX7_isWithin_12 : decode cX7_isWithin 12 = .ok (.iconst 0, 1) := by decide +kernel
theorem dX7_isWithin_13 : decode cX7_isWithin 13 = .ok (.ireturn, 1) := by decide +kernel
theorem dX7_smallest_0 : decode cX7_smallest 0 = .ok (.aload_n 0, 1) := by decide +kernel
theorem dX7_smallest_1 : decode cX7_smallest 1 = .ok (.invokevirtual 167, 3) := by decide +kernel
theorem dX7_smallest_4 : decode cX7_smallest 4 = .ok (.aload_n 0, 1) := by decide +kernel
theorem dX7_smallest_5 : decode cX7_smallest 5 = .ok (.invokevirtual 160, 3) := by decide +kernel
theorem dX7_smallest_8 : decode cX7_smallest 8 = .ok (.istore_n 1, 1) := by decide +kernel
theorem dX7_smallest_9 : decode cX7_smallest 9 = .ok (.iconst (-1), 1) := by decide +kernel
theorem dX7_smallest_10 : decode cX7_smallest 10 = .ok (.istore_n 2, 1) := by decide +kernel
theorem dX7_smallest_11 : decode cX7_smallest 11 = .ok (.iconst 1, 1) := by decide +kernel
theorem dX7_smallest_12 : decode cX7_smallest 12 = .ok (.aload_n 0, 1) := by decide +kernel
theorem dX7_smallest_13 : decode cX7_smallest 13 = .ok (.getfield 7, 3) := by decide +kernel
theorem dX7_smallest_16 : decode cX7_smallest 16 = .ok (.iconst 0, 1) := by decide +kernel
theorem dX7_smallest_17 : decode cX7_smallest 17 = .ok (.iaload, 1) := by decide +kernel
theorem dX7_smallest_18 : decode cX7_smallest 18 = .ok (.ishl, 1) := by decide +kernel
theorem dX7_smallest_19 : decode cX7_smallest 19 = .ok (.iconst 1, 1) := by decide +kernel
theorem dX7_smallest_20 : decode cX7_smallest 20 = .ok (.isub, 1) := by decide +kernel
theorem dX7_smallest_21 : decode cX7_smallest 21 = .ok (.istore_n 3, 1) := by decide +kernel
theorem dX7_smallest_22 : decode cX7_smallest 22 = .ok (.iload_n 3, 1) := by decide +kernel
theorem dX7_smallest_23 : decode cX7_smallest 23 = .ok (.ifCond .lt 61, 3) := by decide +kernel
theorem dX7_smallest_26 : decode cX7_smallest 26 = .ok (.aload_n 0, 1) := by decide +kernel
theorem dX7_smallest_27 : decode cX7_smallest 27 = .ok (.iload_n 3, 1) := by decide +kernel
theorem dX7_smallest_28 : decode cX7_smallest 28 = .ok (.iload_n 1, 1) := by decide +kernel
theorem dX7_smallest_29 : decode cX7_smallest 29 = .ok (.invokevirtual 221, 3) := by decide +kernel
theorem dX7_smallest_32 : decode cX7_smallest 32 = .ok (.ifCond .eq 17, 3) := by decide +kernel
theorem dX7_smallest_35 : decode cX7_smallest 35 = .ok (.aload_n 0, 1) := by decide +kernel
theorem dX7_smallest_36 : decode cX7_smallest 36 = .ok (.iload_n 3, 1) := by decide +kernel
theorem dX7_smallest_37 : decode cX7_smallest 37 = .ok (.invokevirtual 170, 3) := by decide +kernel
theorem dX7_smallest_40 : decode cX7_smallest 40 = .ok (.lconst 0, 1) := by decide +kernel
theorem dX7_smallest_41 : decode cX7_smallest 41 = .ok (.lcmp, 1) := by decide +kernel
theorem dX7_smallest_42 : decode cX7_smallest 42 = .ok (.ifCond .ne 7, 3) := by decide +kernel
theorem dX7_smallest_45 : decode cX7_smallest 45 = .ok (.iconst 1, 1) := by decide +kernel
theorem dX7_smallest_46 : decode cX7_smallest 46 = .ok (.goto 4, 3) := by decide +kernel
theorem dX7_smallest_49 : decode cX7_smallest 49 = .ok (.iconst 0, 1) := by decide +kernel
theorem dX7_smallest_50 : decode cX7_smallest 50 = .ok (.istore 4, 2) := by decide +kernel
theorem dX7_smallest_52 : decode cX7_smallest 52 = .ok (.iload 4, 2) := by decide +kernel
theorem dX7_smallest_54 : decode cX7_smallest 54 = .ok (.ifCond .eq 22, 3) := by decide +kernel
theorem dX7_smallest_57 : decode cX7_smallest 57 = .ok (.iload_n 2, 1) := by decide +kernel
theorem dX7_smallest_58 : decode cX7_smallest 58 = .ok (.ifCond .lt 14, 3) := by decide +kernel
theorem dX7_smallest_61 : decode cX7_smallest 61 = .ok (.iload_n 3, 1) := by decide +kernel
theorem dX7_smallest_62 : decode cX7_smallest 62 = .ok (.invokestatic 224, 3) := by decide +kernel
theorem dX7_smallest_65 : decode cX7_smallest 65 = .ok (.iload_n 2, 1) := by decide +kernel
theorem dX7_smallest_66 : decode cX7_smallest 66 = .ok (.invokestatic 224, 3) := by decide +kernel
theorem dX7_smallest_69 : decode cX7_smallest 69 = .ok (.if_icmp .gt 7, 3) := by decide +kernel
theorem dX7_smallest_72 : decode cX7_smallest 72 = .ok (.iload_n 3, 1) := by decide +kernel
theorem dX7_smallest_73 : decode cX7_smallest 73 = .ok (.goto 4, 3) := by decide +kernel
theorem dX7_smallest_76 : decode cX7_smallest 76 = .ok (.iload_n 2, 1) := by decide +kernel
theorem dX7_smallest_77 : decode cX7_smallest 77 = .ok (.istore_n 2, 1) := by decide +kernel
theorem dX7_smallest_78 : decode cX7_smallest 78 = .ok (.iinc 3 (-1), 3) := by decide +kernel
theorem dX7_smallest_81 : decode cX7_smallest 81 = .ok (.goto (-59), 3) := by decide +kernel
theorem dX7_smallest_84 : decode cX7_smallest 84 = .ok (.iload_n 2, 1) := by decide +kernel
theorem dX7_smallest_85 : decode cX7_smallest 85 = .ok (.ireturn, 1) := by decide +kernel
theorem dX7_smallestClash_0 : decode cX7_smallestClash 0 = .ok (.aload_n 0, 1) := by decide +kernel
theorem dX7_smallestClash_1 : decode cX7_smallestClash 1 = .ok (.iconst 0, 1) := by decide +kernel
theorem dX7_smallestClash_2 : decode cX7_smallestClash 2 = .ok (.putfield 31, 3) := by decide +kernel
theorem dX7_smallestClash_5 : decode cX7_smallestClash 5 = .ok (.aload_n 0, 1) := by decide +kernel
theorem dX7_smallestClash_6 : decode cX7_smallestClash 6 = .ok (.invokevirtual 227, 3) := by decide +kernel
theorem dX7_smallestClash_9 : decode cX7_smallestClash 9 = .ok (.ireturn, 1) := by decide +kernel
theorem dX7_smallestMeeting_0 : decode cX7_smallestMeeting 0 = .ok (.aload_n 0, 1) := by decide +kernel
theorem dX7_smallestMeeting_1 : decode cX7_smallestMeeting 1 = .ok (.invokevirtual 160, 3) := by decide +kernel
theorem dX7_smallestMeeting_4 : decode cX7_smallestMeeting 4 = .ok (.istore_n 1, 1) := by decide +kernel
theorem dX7_smallestMeeting_5 : decode cX7_smallestMeeting 5 = .ok (.iconst (-1), 1) := by decide +kernel
theorem dX7_smallestMeeting_6 : decode cX7_smallestMeeting 6 = .ok (.istore_n 2, 1) := by decide +kernel
theorem dX7_smallestMeeting_7 : decode cX7_smallestMeeting 7 = .ok (.iconst 0, 1) := by decide +kernel
theorem dX7_smallestMeeting_8 : decode cX7_smallestMeeting 8 = .ok (.istore_n 3, 1) := by decide +kernel
theorem dX7_smallestMeeting_9 : decode cX7_smallestMeeting 9 = .ok (.iload_n 3, 1) := by decide +kernel
theorem dX7_smallestMeeting_10 : decode cX7_smallestMeeting 10 = .ok (.iconst 1, 1) := by decide +kernel
theorem dX7_smallestMeeting_11 : decode cX7_smallestMeeting 11 = .ok (.aload_n 0, 1) := by decide +kernel
theorem dX7_smallestMeeting_12 : decode cX7_smallestMeeting 12 = .ok (.getfield 7, 3) := by decide +kernel
theorem dX7_smallestMeeting_15 : decode cX7_smallestMeeting 15 = .ok (.iconst 0, 1) := by decide +kernel
theorem dX7_smallestMeeting_16 : decode cX7_smallestMeeting 16 = .ok (.iaload, 1) := by decide +kernel
theorem dX7_smallestMeeting_17 : decode cX7_smallestMeeting 17 = .ok (.ishl, 1) := by decide +kernel
theorem dX7_smallestMeeting_18 : decode cX7_smallestMeeting 18 = .ok (.if_icmp .ge 82, 3) := by decide +kernel
theorem dX7_smallestMeeting_21 : decode cX7_smallestMeeting 21 = .ok (.aload_n 0, 1) := by decide +kernel
theorem dX7_smallestMeeting_22 : decode cX7_smallestMeeting 22 = .ok (.iload_n 3, 1) := by decide +kernel
theorem dX7_smallestMeeting_23 : decode cX7_smallestMeeting 23 = .ok (.iload_n 1, 1) := by decide +kernel
theorem dX7_smallestMeeting_24 : decode cX7_smallestMeeting 24 = .ok (.invokevirtual 221, 3) := by decide +kernel
theorem dX7_smallestMeeting_27 : decode cX7_smallestMeeting 27 = .ok (.istore 4, 2) := by decide +kernel
theorem dX7_smallestMeeting_29 : decode cX7_smallestMeeting 29 = .ok (.iconst 0, 1) := by decide +kernel
theorem dX7_smallestMeeting_30 : decode cX7_smallestMeeting 30 = .ok (.istore 5, 2) := by decide +kernel
theorem dX7_smallestMeeting_32 : decode cX7_smallestMeeting 32 = .ok (.iload 5, 2) := by decide +kernel
theorem dX7_smallestMeeting_34 : decode cX7_smallestMeeting 34 = .ok (.bipush 64, 2) := by decide +kernel
theorem dX7_smallestMeeting_36 : decode cX7_smallestMeeting 36 = .ok (.if_icmp .ge 32, 3) := by decide +kernel
theorem dX7_smallestMeeting_39 : decode cX7_smallestMeeting 39 = .ok (.iload 4, 2) := by decide +kernel
theorem dX7_smallestMeeting_41 : decode cX7_smallestMeeting 41 = .ok (.ifCond .eq 27, 3) := by decide +kernel
theorem dX7_smallestMeeting_44 : decode cX7_smallestMeeting 44 = .ok (.iload_n 3, 1) := by decide +kernel
theorem dX7_smallestMeeting_45 : decode cX7_smallestMeeting 45 = .ok (.aload_n 0, 1) := by decide +kernel
theorem dX7_smallestMeeting_46 : decode cX7_smallestMeeting 46 = .ok (.iload 5, 2) := by decide +kernel
theorem dX7_smallestMeeting_48 : decode cX7_smallestMeeting 48 = .ok (.invokevirtual 104, 3) := by decide +kernel
theorem dX7_smallestMeeting_51 : decode cX7_smallestMeeting 51 = .ok (.iand, 1) := by decide +kernel
theorem dX7_smallestMeeting_52 : decode cX7_smallestMeeting 52 = .ok (.ifCond .eq 7, 3) := by decide +kernel
theorem dX7_smallestMeeting_55 : decode cX7_smallestMeeting 55 = .ok (.iconst 1, 1) := by decide +kernel
theorem dX7_smallestMeeting_56 : decode cX7_smallestMeeting 56 = .ok (.goto 4, 3) := by decide +kernel
theorem dX7_smallestMeeting_59 : decode cX7_smallestMeeting 59 = .ok (.iconst 0, 1) := by decide +kernel
theorem dX7_smallestMeeting_60 : decode cX7_smallestMeeting 60 = .ok (.istore 4, 2) := by decide +kernel
theorem dX7_smallestMeeting_62 : decode cX7_smallestMeeting 62 = .ok (.iinc 5 1, 3) := by decide +kernel
theorem dX7_smallestMeeting_65 : decode cX7_smallestMeeting 65 = .ok (.goto (-33), 3) := by decide +kernel
theorem dX7_smallestMeeting_68 : decode cX7_smallestMeeting 68 = .ok (.iload 4, 2) := by decide +kernel
theorem dX7_smallestMeeting_70 : decode cX7_smallestMeeting 70 = .ok (.ifCond .eq 22, 3) := by decide +kernel
theorem dX7_smallestMeeting_73 : decode cX7_smallestMeeting 73 = .ok (.iload_n 2, 1) := by decide +kernel
theorem dX7_smallestMeeting_74 : decode cX7_smallestMeeting 74 = .ok (.ifCond .lt 14, 3) := by decide +kernel
theorem dX7_smallestMeeting_77 : decode cX7_smallestMeeting 77 = .ok (.iload_n 3, 1) := by decide +kernel
theorem dX7_smallestMeeting_78 : decode cX7_smallestMeeting 78 = .ok (.invokestatic 224, 3) := by decide +kernel
theorem dX7_smallestMeeting_81 : decode cX7_smallestMeeting 81 = .ok (.iload_n 2, 1) := by decide +kernel
theorem dX7_smallestMeeting_82 : decode cX7_smallestMeeting 82 = .ok (.invokestatic 224, 3) := by decide +kernel
theorem dX7_smallestMeeting_85 : decode cX7_smallestMeeting 85 = .ok (.if_icmp .ge 7, 3) := by decide +kernel
theorem dX7_smallestMeeting_88 : decode cX7_smallestMeeting 88 = .ok (.iload_n 3, 1) := by decide +kernel
theorem dX7_smallestMeeting_89 : decode cX7_smallestMeeting 89 = .ok (.goto 4, 3) := by decide +kernel
theorem dX7_smallestMeeting_92 : decode cX7_smallestMeeting 92 = .ok (.iload_n 2, 1) := by decide +kernel
theorem dX7_smallestMeeting_93 : decode cX7_smallestMeeting 93 = .ok (.istore_n 2, 1) := by decide +kernel
theorem dX7_smallestMeeting_94 : decode cX7_smallestMeeting 94 = .ok (.iinc 3 1, 3) := by decide +kernel
theorem dX7_smallestMeeting_97 : decode cX7_smallestMeeting 97 = .ok (.goto (-88), 3) := by decide +kernel
theorem dX7_smallestMeeting_100 : decode cX7_smallestMeeting 100 = .ok (.iload_n 2, 1) := by decide +kernel
theorem dX7_smallestMeeting_101 : decode cX7_smallestMeeting 101 = .ok (.ireturn, 1) := by decide +kernel
theorem dX7_smallestClashByWays_0 : decode cX7_smallestClashByWays 0 = .ok (.aload_n 0, 1) := by decide +kernel
theorem dX7_smallestClashByWays_1 : decode cX7_smallestClashByWays 1 = .ok (.iconst 0, 1) := by decide +kernel
theorem dX7_smallestClashByWays_2 : decode cX7_smallestClashByWays 2 = .ok (.putfield 31, 3) := by decide +kernel
theorem dX7_smallestClashByWays_5 : decode cX7_smallestClashByWays 5 = .ok (.aload_n 0, 1) := by decide +kernel
theorem dX7_smallestClashByWays_6 : decode cX7_smallestClashByWays 6 = .ok (.invokevirtual 230, 3) := by decide +kernel
theorem dX7_smallestClashByWays_9 : decode cX7_smallestClashByWays 9 = .ok (.ireturn, 1) := by decide +kernel
theorem dX7_narrowed_0 : decode cX7_narrowed 0 = .ok (.aload_n 0, 1) := by decide +kernel
theorem dX7_narrowed_1 : decode cX7_narrowed 1 = .ok (.invokevirtual 167, 3) := by decide +kernel
theorem dX7_narrowed_4 : decode cX7_narrowed 4 = .ok (.aload_n 0, 1) := by decide +kernel
theorem dX7_narrowed_5 : decode cX7_narrowed 5 = .ok (.invokevirtual 160, 3) := by decide +kernel
theorem dX7_narrowed_8 : decode cX7_narrowed 8 = .ok (.istore_n 1, 1) := by decide +kernel
theorem dX7_narrowed_9 : decode cX7_narrowed 9 = .ok (.aload_n 0, 1) := by decide +kernel
theorem dX7_narrowed_10 : decode cX7_narrowed 10 = .ok (.iload_n 1, 1) := by decide +kernel
theorem dX7_narrowed_11 : decode cX7_narrowed 11 = .ok (.invokevirtual 170, 3) := by decide +kernel
theorem dX7_narrowed_14 : decode cX7_narrowed 14 = .ok (.lconst 0, 1) := by decide +kernel
theorem dX7_narrowed_15 : decode cX7_narrowed 15 = .ok (.lcmp, 1) := by decide +kernel
theorem dX7_narrowed_16 : decode cX7_narrowed 16 = .ok (.ifCond .eq 5, 3) := by decide +kernel
theorem dX7_narrowed_19 : decode cX7_narrowed 19 = .ok (.iconst (-1), 1) := by decide +kernel
theorem dX7_narrowed_20 : decode cX7_narrowed 20 = .ok (.ireturn, 1) := by decide +kernel
theorem dX7_narrowed_21 : decode cX7_narrowed 21 = .ok (.aload_n 0, 1) := by decide +kernel
theorem dX7_narrowed_22 : decode cX7_narrowed 22 = .ok (.getfield 7, 3) := by decide +kernel
theorem dX7_narrowed_25 : decode cX7_narrowed 25 = .ok (.iconst 0, 1) := by decide +kernel
theorem dX7_narrowed_26 : decode cX7_narrowed 26 = .ok (.iaload, 1) := by decide +kernel
theorem dX7_narrowed_27 : decode cX7_narrowed 27 = .ok (.iconst 1, 1) := by decide +kernel
theorem dX7_narrowed_28 : decode cX7_narrowed 28 = .ok (.isub, 1) := by decide +kernel
theorem dX7_narrowed_29 : decode cX7_narrowed 29 = .ok (.istore_n 2, 1) := by decide +kernel
theorem dX7_narrowed_30 : decode cX7_narrowed 30 = .ok (.iload_n 2, 1) := by decide +kernel
theorem dX7_narrowed_31 : decode cX7_narrowed 31 = .ok (.ifCond .lt 33, 3) := by decide +kernel
theorem dX7_narrowed_34 : decode cX7_narrowed 34 = .ok (.iload_n 1, 1) := by decide +kernel
theorem dX7_narrowed_35 : decode cX7_narrowed 35 = .ok (.iconst 1, 1) := by decide +kernel
theorem dX7_narrowed_36 : decode cX7_narrowed 36 = .ok (.iload_n 2, 1) := by decide +kernel
theorem dX7_narrowed_37 : decode cX7_narrowed 37 = .ok (.ishl, 1) := by decide +kernel
theorem dX7_narrowed_38 : decode cX7_narrowed 38 = .ok (.iconst (-1), 1) := by decide +kernel
theorem dX7_narrowed_39 : decode cX7_narrowed 39 = .ok (.ixor, 1) := by decide +kernel
theorem dX7_narrowed_40 : decode cX7_narrowed 40 = .ok (.iand, 1) := by decide +kernel
theorem dX7_narrowed_41 : decode cX7_narrowed 41 = .ok (.istore_n 3, 1) := by decide +kernel
theorem dX7_narrowed_42 : decode cX7_narrowed 42 = .ok (.aload_n 0, 1) := by decide +kernel
theorem dX7_narrowed_43 : decode cX7_narrowed 43 = .ok (.iload_n 3, 1) := by decide +kernel
theorem dX7_narrowed_44 : decode cX7_narrowed 44 = .ok (.invokevirtual 170, 3) := by decide +kernel
theorem dX7_narrowed_47 : decode cX7_narrowed 47 = .ok (.lconst 0, 1) := by decide +kernel
theorem dX7_narrowed_48 : decode cX7_narrowed 48 = .ok (.lcmp, 1) := by decide +kernel
theorem dX7_narrowed_49 : decode cX7_narrowed 49 = .ok (.ifCond .ne 7, 3) := by decide +kernel
theorem dX7_narrowed_52 : decode cX7_narrowed 52 = .ok (.iload_n 3, 1) := by decide +kernel
theorem dX7_narrowed_53 : decode cX7_narrowed 53 = .ok (.goto 4, 3) := by decide +kernel
theorem dX7_narrowed_56 : decode cX7_narrowed 56 = .ok (.iload_n 1, 1) := by decide +kernel
theorem dX7_narrowed_57 : decode cX7_narrowed 57 = .ok (.istore_n 1, 1) := by decide +kernel
theorem dX7_narrowed_58 : decode cX7_narrowed 58 = .ok (.iinc 2 (-1), 3) := by decide +kernel
theorem dX7_narrowed_61 : decode cX7_narrowed 61 = .ok (.goto (-31), 3) := by decide +kernel
theorem dX7_narrowed_64 : decode cX7_narrowed 64 = .ok (.iload_n 1, 1) := by decide +kernel
theorem dX7_narrowed_65 : decode cX7_narrowed 65 = .ok (.ireturn, 1) := by decide +kernel
theorem dX7_narrowedClash_0 : decode cX7_narrowedClash 0 = .ok (.aload_n 0, 1) := by decide +kernel
theorem dX7_narrowedClash_1 : decode cX7_narrowedClash 1 = .ok (.iconst 0, 1) := by decide +kernel
theorem dX7_narrowedClash_2 : decode cX7_narrowedClash 2 = .ok (.putfield 31, 3) := by decide +kernel
theorem dX7_narrowedClash_5 : decode cX7_narrowedClash 5 = .ok (.aload_n 0, 1) := by decide +kernel
theorem dX7_narrowedClash_6 : decode cX7_narrowedClash 6 = .ok (.invokevirtual 233, 3) := by decide +kernel
theorem dX7_narrowedClash_9 : decode cX7_narrowedClash 9 = .ok (.ireturn, 1) := by decide +kernel
theorem dX7_isNarrow_0 : decode cX7_isNarrow 0 = .ok (.aload_n 0, 1) := by decide +kernel
theorem dX7_isNarrow_1 : decode cX7_isNarrow 1 = .ok (.iload_n 1, 1) := by decide +kernel
theorem dX7_isNarrow_2 : decode cX7_isNarrow 2 = .ok (.invokevirtual 170, 3) := by decide +kernel
theorem dX7_isNarrow_5 : decode cX7_isNarrow 5 = .ok (.lconst 0, 1) := by decide +kernel
theorem dX7_isNarrow_6 : decode cX7_isNarrow 6 = .ok (.lcmp, 1) := by decide +kernel
theorem dX7_isNarrow_7 : decode cX7_isNarrow 7 = .ok (.ifCond .ne 7, 3) := by decide +kernel
theorem dX7_isNarrow_10 : decode cX7_isNarrow 10 = .ok (.iconst 1, 1) := by decide +kernel
theorem dX7_isNarrow_11 : decode cX7_isNarrow 11 = .ok (.goto 4, 3) := by decide +kernel
theorem dX7_isNarrow_14 : decode cX7_isNarrow 14 = .ok (.iconst 0, 1) := by decide +kernel
theorem dX7_isNarrow_15 : decode cX7_isNarrow 15 = .ok (.istore_n 2, 1) := by decide +kernel
theorem dX7_isNarrow_16 : decode cX7_isNarrow 16 = .ok (.iconst 0, 1) := by decide +kernel
theorem dX7_isNarrow_17 : decode cX7_isNarrow 17 = .ok (.istore_n 3, 1) := by decide +kernel
theorem dX7_isNarrow_18 : decode cX7_isNarrow 18 = .ok (.iload_n 3, 1) := by decide +kernel
theorem dX7_isNarrow_19 : decode cX7_isNarrow 19 = .ok (.aload_n 0, 1) := by decide +kernel
theorem dX7_isNarrow_20 : decode cX7_isNarrow 20 = .ok (.getfield 7, 3) := by decide +kernel
theorem dX7_isNarrow_23 : decode cX7_isNarrow 23 = .ok (.iconst 0, 1) := by decide +kernel
theorem dX7_isNarrow_24 : decode cX7_isNarrow 24 = .ok (.iaload, 1) := by decide +kernel
theorem dX7_isNarrow_25 : decode cX7_isNarrow 25 = .ok (.if_icmp .ge 43, 3) := by decide +kernel
theorem dX7_isNarrow_28 : decode cX7_isNarrow 28 = .ok (.iload_n 2, 1) := by decide +kernel
theorem dX7_isNarrow_29 : decode cX7_isNarrow 29 = .ok (.ifCond .eq 31, 3) := by decide +kernel
theorem dX7_isNarrow_32 : decode cX7_isNarrow 32 = .ok (.iload_n 1, 1) := by decide +kernel
theorem dX7_isNarrow_33 : decode cX7_isNarrow 33 = .ok (.iload_n 3, 1) := by decide +kernel
theorem dX7_isNarrow_34 : decode cX7_isNarrow 34 = .ok (.invokestatic 46, 3) := by decide +kernel
theorem dX7_isNarrow_37 : decode cX7_isNarrow 37 = .ok (.ifCond .eq 19, 3) := by decide +kernel
theorem dX7_isNarrow_40 : decode cX7_isNarrow 40 = .ok (.aload_n 0, 1) := by decide +kernel
theorem dX7_isNarrow_41 : decode cX7_isNarrow 41 = .ok (.iload_n 1, 1) := by decide +kernel
theorem dX7_isNarrow_42 : decode cX7_isNarrow 42 = .ok (.iconst 1, 1) := by decide +kernel
theorem dX7_isNarrow_43 : decode cX7_isNarrow 43 = .ok (.iload_n 3, 1) := by decide +kernel
theorem dX7_isNarrow_44 : decode cX7_isNarrow 44 = .ok (.ishl, 1) := by decide +kernel
theorem dX7_isNarrow_45 : decode cX7_isNarrow 45 = .ok (.iconst (-1), 1) := by decide +kernel
theorem dX7_isNarrow_46 : decode cX7_isNarrow 46 = .ok (.ixor, 1) := by decide +kernel
theorem dX7_isNarrow_47 : decode cX7_isNarrow 47 = .ok (.iand, 1) := by decide +kernel
theorem dX7_isNarrow_48 : decode cX7_isNarrow 48 = .ok (.invokevirtual 170, 3) := by decide +kernel
theorem dX7_isNarrow_51 : decode cX7_isNarrow 51 = .ok (.lconst 0, 1) := by decide +kernel
theorem dX7_isNarrow_52 : decode cX7_isNarrow 52 = .ok (.lcmp, 1) := by decide +kernel
theorem dX7_isNarrow_53 : decode cX7_isNarrow 53 = .ok (.ifCond .eq 7, 3) := by decide +kernel
theorem dX7_isNarrow_56 : decode cX7_isNarrow 56 = .ok (.iconst 1, 1) := by decide +kernel
theorem dX7_isNarrow_57 : decode cX7_isNarrow 57 = .ok (.goto 4, 3) := by decide +kernel
theorem dX7_isNarrow_60 : decode cX7_isNarrow 60 = .ok (.iconst 0, 1) := by decide +kernel
theorem dX7_isNarrow_61 : decode cX7_isNarrow 61 = .ok (.istore_n 2, 1) := by decide +kernel
theorem dX7_isNarrow_62 : decode cX7_isNarrow 62 = .ok (.iinc 3 1, 3) := by decide +kernel
theorem dX7_isNarrow_65 : decode cX7_isNarrow 65 = .ok (.goto (-47), 3) := by decide +kernel
theorem dX7_isNarrow_68 : decode cX7_isNarrow 68 = .ok (.iload_n 2, 1) := by decide +kernel
theorem dX7_isNarrow_69 : decode cX7_isNarrow 69 = .ok (.ireturn, 1) := by decide +kernel
theorem dX7_narrows_0 : decode cX7_narrows 0 = .ok (.aload_n 0, 1) := by decide +kernel
theorem dX7_narrows_1 : decode cX7_narrows 1 = .ok (.invokevirtual 167, 3) := by decide +kernel
theorem dX7_narrows_4 : decode cX7_narrows 4 = .ok (.aload_n 0, 1) := by decide +kernel
theorem dX7_narrows_5 : decode cX7_narrows 5 = .ok (.invokevirtual 160, 3) := by decide +kernel
theorem dX7_narrows_8 : decode cX7_narrows 8 = .ok (.istore_n 1, 1) := by decide +kernel
theorem dX7_narrows_9 : decode cX7_narrows 9 = .ok (.iconst 0, 1) := by decide +kernel
theorem dX7_narrows_10 : decode cX7_narrows 10 = .ok (.istore_n 2, 1) := by decide +kernel
theorem dX7_narrows_11 : decode cX7_narrows 11 = .ok (.iconst 0, 1) := by decide +kernel
theorem dX7_narrows_12 : decode cX7_narrows 12 = .ok (.istore_n 3, 1) := by decide +kernel
theorem dX7_narrows_13 : decode cX7_narrows 13 = .ok (.iload_n 3, 1) := by decide +kernel
theorem dX7_narrows_14 : decode cX7_narrows 14 = .ok (.iconst 1, 1) := by decide +kernel
theorem dX7_narrows_15 : decode cX7_narrows 15 = .ok (.aload_n 0, 1) := by decide +kernel
theorem dX7_narrows_16 : decode cX7_narrows 16 = .ok (.getfield 7, 3) := by decide +kernel
theorem dX7_narrows_19 : decode cX7_narrows 19 = .ok (.iconst 0, 1) := by decide +kernel
theorem dX7_narrows_20 : decode cX7_narrows 20 = .ok (.iaload, 1) := by decide +kernel
theorem dX7_narrows_21 : decode cX7_narrows 21 = .ok (.ishl, 1) := by decide +kernel
theorem dX7_narrows_22 : decode cX7_narrows 22 = .ok (.if_icmp .ge 34, 3) := by decide +kernel
theorem dX7_narrows_25 : decode cX7_narrows 25 = .ok (.iload_n 2, 1) := by decide +kernel
theorem dX7_narrows_26 : decode cX7_narrows 26 = .ok (.aload_n 0, 1) := by decide +kernel
theorem dX7_narrows_27 : decode cX7_narrows 27 = .ok (.iload_n 3, 1) := by decide +kernel
theorem dX7_narrows_28 : decode cX7_narrows 28 = .ok (.iload_n 1, 1) := by decide +kernel
theorem dX7_narrows_29 : decode cX7_narrows 29 = .ok (.invokevirtual 221, 3) := by decide +kernel
theorem dX7_narrows_32 : decode cX7_narrows 32 = .ok (.ifCond .eq 15, 3) := by decide +kernel
theorem dX7_narrows_35 : decode cX7_narrows 35 = .ok (.aload_n 0, 1) := by decide +kernel
theorem dX7_narrows_36 : decode cX7_narrows 36 = .ok (.iload_n 3, 1) := by decide +kernel
theorem dX7_narrows_37 : decode cX7_narrows 37 = .ok (.invokevirtual 236, 3) := by decide +kernel
theorem dX7_narrows_40 : decode cX7_narrows 40 = .ok (.ifCond .eq 7, 3) := by decide +kernel
theorem dX7_narrows_43 : decode cX7_narrows 43 = .ok (.iconst 1, 1) := by decide +kernel
theorem dX7_narrows_44 : decode cX7_narrows 44 = .ok (.goto 4, 3) := by decide +kernel
theorem dX7_narrows_47 : decode cX7_narrows 47 = .ok (.iconst 0, 1) := by decide +kernel
theorem dX7_narrows_48 : decode cX7_narrows 48 = .ok (.iadd, 1) := by decide +kernel
theorem dX7_narrows_49 : decode cX7_narrows 49 = .ok (.istore_n 2, 1) := by decide +kernel
theorem dX7_narrows_50 : decode cX7_narrows 50 = .ok (.iinc 3 1, 3) := by decide +kernel
theorem dX7_narrows_53 : decode cX7_narrows 53 = .ok (.goto (-40), 3) := by decide +kernel
theorem dX7_narrows_56 : decode cX7_narrows 56 = .ok (.iload_n 2, 1) := by decide +kernel
theorem dX7_narrows_57 : decode cX7_narrows 57 = .ok (.ireturn, 1) := by decide +kernel
theorem dX7_narrowClashes_0 : decode cX7_narrowClashes 0 = .ok (.aload_n 0, 1) := by decide +kernel
theorem dX7_narrowClashes_1 : decode cX7_narrowClashes 1 = .ok (.iconst 0, 1) := by decide +kernel
theorem dX7_narrowClashes_2 : decode cX7_narrowClashes 2 = .ok (.putfield 31, 3) := by decide +kernel
theorem dX7_narrowClashes_5 : decode cX7_narrowClashes 5 = .ok (.aload_n 0, 1) := by decide +kernel
theorem dX7_narrowClashes_6 : decode cX7_narrowClashes 6 = .ok (.invokevirtual 239, 3) := by decide +kernel
theorem dX7_narrowClashes_9 : decode cX7_narrowClashes 9 = .ok (.ireturn, 1) := by decide +kernel
theorem dX7_waivers_0 : decode cX7_waivers 0 = .ok (.aload_n 0, 1) := by decide +kernel
theorem dX7_waivers_1 : decode cX7_waivers 1 = .ok (.iconst 0, 1) := by decide +kernel
theorem dX7_waivers_2 : decode cX7_waivers 2 = .ok (.invokevirtual 104, 3) := by decide +kernel
theorem dX7_waivers_5 : decode cX7_waivers 5 = .ok (.istore_n 1, 1) := by decide +kernel
theorem dX7_waivers_6 : decode cX7_waivers 6 = .ok (.iconst 1, 1) := by decide +kernel
theorem dX7_waivers_7 : decode cX7_waivers 7 = .ok (.istore_n 2, 1) := by decide +kernel
theorem dX7_waivers_8 : decode cX7_waivers 8 = .ok (.iload_n 2, 1) := by decide +kernel
theorem dX7_waivers_9 : decode cX7_waivers 9 = .ok (.bipush 64, 2) := by decide +kernel
theorem dX7_waivers_11 : decode cX7_waivers 11 = .ok (.if_icmp .ge 60, 3) := by decide +kernel
theorem dX7_waivers_14 : decode cX7_waivers 14 = .ok (.aload_n 0, 1) := by decide +kernel
theorem dX7_waivers_15 : decode cX7_waivers 15 = .ok (.iload_n 2, 1) := by decide +kernel
theorem dX7_waivers_16 : decode cX7_waivers 16 = .ok (.invokevirtual 104, 3) := by decide +kernel
theorem dX7_waivers_19 : decode cX7_waivers 19 = .ok (.istore_n 3, 1) := by decide +kernel
theorem dX7_waivers_20 : decode cX7_waivers 20 = .ok (.iload_n 3, 1) := by decide +kernel
theorem dX7_waivers_21 : decode cX7_waivers 21 = .ok (.invokestatic 224, 3) := by decide +kernel
theorem dX7_waivers_24 : decode cX7_waivers 24 = .ok (.iload_n 1, 1) := by decide +kernel
theorem dX7_waivers_25 : decode cX7_waivers 25 = .ok (.invokestatic 224, 3) := by decide +kernel
theorem dX7_waivers_28 : decode cX7_waivers 28 = .ok (.if_icmp .lt 19, 3) := by decide +kernel
theorem dX7_waivers_31 : decode cX7_waivers 31 = .ok (.iload_n 3, 1) := by decide +kernel
theorem dX7_waivers_32 : decode cX7_waivers 32 = .ok (.invokestatic 224, 3) := by decide +kernel
theorem dX7_waivers_35 : decode cX7_waivers 35 = .ok (.iload_n 1, 1) := by decide +kernel
theorem dX7_waivers_36 : decode cX7_waivers 36 = .ok (.invokestatic 224, 3) := by decide +kernel
theorem dX7_waivers_39 : decode cX7_waivers 39 = .ok (.if_icmp .ne 12, 3) := by decide +kernel
theorem dX7_waivers_42 : decode cX7_waivers 42 = .ok (.iload_n 3, 1) := by decide +kernel
theorem dX7_waivers_43 : decode cX7_waivers 43 = .ok (.iload_n 1, 1) := by decide +kernel
theorem dX7_waivers_44 : decode cX7_waivers 44 = .ok (.if_icmp .ge 7, 3) := by decide +kernel
theorem dX7_waivers_47 : decode cX7_waivers 47 = .ok (.iconst 1, 1) := by decide +kernel
theorem dX7_waivers_48 : decode cX7_waivers 48 = .ok (.goto 4, 3) := by decide +kernel
theorem dX7_waivers_51 : decode cX7_waivers 51 = .ok (.iconst 0, 1) := by decide +kernel
theorem dX7_waivers_52 : decode cX7_waivers 52 = .ok (.istore 4, 2) := by decide +kernel
theorem dX7_waivers_54 : decode cX7_waivers 54 = .ok (.iload 4, 2) := by decide +kernel
theorem dX7_waivers_56 : decode cX7_waivers 56 = .ok (.ifCond .eq 7, 3) := by decide +kernel
theorem dX7_waivers_59 : decode cX7_waivers 59 = .ok (.iload_n 3, 1) := by decide +kernel
theorem dX7_waivers_60 : decode cX7_waivers 60 = .ok (.goto 4, 3) := by decide +kernel
theorem dX7_waivers_63 : decode cX7_waivers 63 = .ok (.iload_n 1, 1) := by decide +kernel
theorem dX7_waivers_64 : decode cX7_waivers 64 = .ok (.istore_n 1, 1) := by decide +kernel
theorem dX7_waivers_65 : decode cX7_waivers 65 = .ok (.iinc 2 1, 3) := by decide +kernel
theorem dX7_waivers_68 : decode cX7_waivers 68 = .ok (.goto (-60), 3) := by decide +kernel
theorem dX7_waivers_71 : decode cX7_waivers 71 = .ok (.iload_n 1, 1) := by decide +kernel
theorem dX7_waivers_72 : decode cX7_waivers 72 = .ok (.ireturn, 1) := by decide +kernel
theorem dX7_fewestWaivers_0 : decode cX7_fewestWaivers 0 = .ok (.aload_n 0, 1) := by decide +kernel
theorem dX7_fewestWaivers_1 : decode cX7_fewestWaivers 1 = .ok (.iconst 0, 1) := by decide +kernel
theorem dX7_fewestWaivers_2 : decode cX7_fewestWaivers 2 = .ok (.putfield 31, 3) := by decide +kernel
theorem dX7_fewestWaivers_5 : decode cX7_fewestWaivers 5 = .ok (.aload_n 0, 1) := by decide +kernel
theorem dX7_fewestWaivers_6 : decode cX7_fewestWaivers 6 = .ok (.invokevirtual 242, 3) := by decide +kernel
theorem dX7_fewestWaivers_9 : decode cX7_fewestWaivers 9 = .ok (.ireturn, 1) := by decide +kernel
theorem dX7_waiversBySets_0 : decode cX7_waiversBySets 0 = .ok (.aload_n 0, 1) := by decide +kernel
theorem dX7_waiversBySets_1 : decode cX7_waiversBySets 1 = .ok (.invokevirtual 167, 3) := by decide +kernel
theorem dX7_waiversBySets_4 : decode cX7_waiversBySets 4 = .ok (.aload_n 0, 1) := by decide +kernel
theorem dX7_waiversBySets_5 : decode cX7_waiversBySets 5 = .ok (.invokevirtual 160, 3) := by decide +kernel
theorem dX7_waiversBySets_8 : decode cX7_waiversBySets 8 = .ok (.istore_n 1, 1) := by decide +kernel
theorem dX7_waiversBySets_9 : decode cX7_waiversBySets 9 = .ok (.iload_n 1, 1) := by decide +kernel
theorem dX7_waiversBySets_10 : decode cX7_waiversBySets 10 = .ok (.istore_n 2, 1) := by decide +kernel
theorem dX7_waiversBySets_11 : decode cX7_waiversBySets 11 = .ok (.iconst 1, 1) := by decide +kernel
theorem dX7_waiversBySets_12 : decode cX7_waiversBySets 12 = .ok (.aload_n 0, 1) := by decide +kernel
theorem dX7_waiversBySets_13 : decode cX7_waiversBySets 13 = .ok (.getfield 7, 3) := by decide +kernel
theorem dX7_waiversBySets_16 : decode cX7_waiversBySets 16 = .ok (.iconst 0, 1) := by decide +kernel
theorem dX7_waiversBySets_17 : decode cX7_waiversBySets 17 = .ok (.iaload, 1) := by decide +kernel
theorem dX7_waiversBySets_18 : decode cX7_waiversBySets 18 = .ok (.ishl, 1) := by decide +kernel
theorem dX7_waiversBySets_19 : decode cX7_waiversBySets 19 = .ok (.iconst 1, 1) := by decide +kernel
theorem dX7_waiversBySets_20 : decode cX7_waiversBySets 20 = .ok (.isub, 1) := by decide +kernel
theorem dX7_waiversBySets_21 : decode cX7_waiversBySets 21 = .ok (.istore_n 3, 1) := by decide +kernel
theorem dX7_waiversBySets_22 : decode cX7_waiversBySets 22 = .ok (.iload_n 3, 1) := by decide +kernel
theorem dX7_waiversBySets_23 : decode cX7_waiversBySets 23 = .ok (.ifCond .lt 61, 3) := by decide +kernel
theorem dX7_waiversBySets_26 : decode cX7_waiversBySets 26 = .ok (.aload_n 0, 1) := by decide +kernel
theorem dX7_waiversBySets_27 : decode cX7_waiversBySets 27 = .ok (.iload_n 3, 1) := by decide +kernel
theorem dX7_waiversBySets_28 : decode cX7_waiversBySets 28 = .ok (.iload_n 1, 1) := by decide +kernel
theorem dX7_waiversBySets_29 : decode cX7_waiversBySets 29 = .ok (.invokevirtual 221, 3) := by decide +kernel
theorem dX7_waiversBySets_32 : decode cX7_waiversBySets 32 = .ok (.ifCond .eq 21, 3) := by decide +kernel
theorem dX7_waiversBySets_35 : decode cX7_waiversBySets 35 = .ok (.aload_n 0, 1) := by decide +kernel
theorem dX7_waiversBySets_36 : decode cX7_waiversBySets 36 = .ok (.iload_n 1, 1) := by decide +kernel
theorem dX7_waiversBySets_37 : decode cX7_waiversBySets 37 = .ok (.iload_n 3, 1) := by decide +kernel
theorem dX7_waiversBySets_38 : decode cX7_waiversBySets 38 = .ok (.iconst (-1), 1) := by decide +kernel
theorem dX7_waiversBySets_39 : decode cX7_waiversBySets 39 = .ok (.ixor, 1) := by decide +kernel
theorem dX7_waiversBySets_40 : decode cX7_waiversBySets 40 = .ok (.iand, 1) := by decide +kernel
theorem dX7_waiversBySets_41 : decode cX7_waiversBySets 41 = .ok (.invokevirtual 170, 3) := by decide +kernel
theorem dX7_waiversBySets_44 : decode cX7_waiversBySets 44 = .ok (.lconst 0, 1) := by decide +kernel
theorem dX7_waiversBySets_45 : decode cX7_waiversBySets 45 = .ok (.lcmp, 1) := by decide +kernel
theorem dX7_waiversBySets_46 : decode cX7_waiversBySets 46 = .ok (.ifCond .eq 7, 3) := by decide +kernel
theorem dX7_waiversBySets_49 : decode cX7_waiversBySets 49 = .ok (.iconst 1, 1) := by decide +kernel
theorem dX7_waiversBySets_50 : decode cX7_waiversBySets 50 = .ok (.goto 4, 3) := by decide +kernel
theorem dX7_waiversBySets_53 : decode cX7_waiversBySets 53 = .ok (.iconst 0, 1) := by decide +kernel
theorem dX7_waiversBySets_54 : decode cX7_waiversBySets 54 = .ok (.istore 4, 2) := by decide +kernel
theorem dX7_waiversBySets_56 : decode cX7_waiversBySets 56 = .ok (.iload 4, 2) := by decide +kernel
theorem dX7_waiversBySets_58 : decode cX7_waiversBySets 58 = .ok (.ifCond .eq 18, 3) := by decide +kernel
theorem dX7_waiversBySets_61 : decode cX7_waiversBySets 61 = .ok (.iload_n 3, 1) := by decide +kernel
theorem dX7_waiversBySets_62 : decode cX7_waiversBySets 62 = .ok (.invokestatic 224, 3) := by decide +kernel
theorem dX7_waiversBySets_65 : decode cX7_waiversBySets 65 = .ok (.iload_n 2, 1) := by decide +kernel
theorem dX7_waiversBySets_66 : decode cX7_waiversBySets 66 = .ok (.invokestatic 224, 3) := by decide +kernel
theorem dX7_waiversBySets_69 : decode cX7_waiversBySets 69 = .ok (.if_icmp .gt 7, 3) := by decide +kernel
theorem dX7_waiversBySets_72 : decode cX7_waiversBySets 72 = .ok (.iload_n 3, 1) := by decide +kernel
theorem dX7_waiversBySets_73 : decode cX7_waiversBySets 73 = .ok (.goto 4, 3) := by decide +kernel
theorem dX7_waiversBySets_76 : decode cX7_waiversBySets 76 = .ok (.iload_n 2, 1) := by decide +kernel
theorem dX7_waiversBySets_77 : decode cX7_waiversBySets 77 = .ok (.istore_n 2, 1) := by decide +kernel
theorem dX7_waiversBySets_78 : decode cX7_waiversBySets 78 = .ok (.iinc 3 (-1), 3) := by decide +kernel
theorem dX7_waiversBySets_81 : decode cX7_waiversBySets 81 = .ok (.goto (-59), 3) := by decide +kernel
theorem dX7_waiversBySets_84 : decode cX7_waiversBySets 84 = .ok (.iload_n 2, 1) := by decide +kernel
theorem dX7_waiversBySets_85 : decode cX7_waiversBySets 85 = .ok (.ireturn, 1) := by decide +kernel
theorem dX7_fewestWaiversBySets_0 : decode cX7_fewestWaiversBySets 0 = .ok (.aload_n 0, 1) := by decide +kernel
theorem dX7_fewestWaiversBySets_1 : decode cX7_fewestWaiversBySets 1 = .ok (.iconst 0, 1) := by decide +kernel
theorem dX7_fewestWaiversBySets_2 : decode cX7_fewestWaiversBySets 2 = .ok (.putfield 31, 3) := by decide +kernel
theorem dX7_fewestWaiversBySets_5 : decode cX7_fewestWaiversBySets 5 = .ok (.aload_n 0, 1) := by decide +kernel
theorem dX7_fewestWaiversBySets_6 : decode cX7_fewestWaiversBySets 6 = .ok (.invokevirtual 245, 3) := by decide +kernel
theorem dX7_fewestWaiversBySets_9 : decode cX7_fewestWaiversBySets 9 = .ok (.ireturn, 1) := by decide +kernel
theorem dX7_turnsBest_0 : decode cX7_turnsBest 0 = .ok (.aload_n 0, 1) := by decide +kernel
theorem dX7_turnsBest_1 : decode cX7_turnsBest 1 = .ok (.invokevirtual 198, 3) := by decide +kernel
theorem dX7_turnsBest_4 : decode cX7_turnsBest 4 = .ok (.lstore_n 1, 1) := by decide +kernel
theorem dX7_turnsBest_5 : decode cX7_turnsBest 5 = .ok (.iconst (-1), 1) := by decide +kernel
theorem dX7_turnsBest_6 : decode cX7_turnsBest 6 = .ok (.istore_n 3, 1) := by decide +kernel
theorem dX7_turnsBest_7 : decode cX7_turnsBest 7 = .ok (.iconst 0, 1) := by decide +kernel
