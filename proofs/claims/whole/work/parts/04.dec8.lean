theorem dL_law__573 : decode cL_law_ 573 = .ok (.iconst 0, 1) := by decide +kernel
theorem dL_law__574 : decode cL_law_ 574 = .ok (.laload, 1) := by decide +kernel
theorem dL_law__575 : decode cL_law_ 575 = .ok (.iload 6, 2) := by decide +kernel
theorem dL_law__577 : decode cL_law_ 577 = .ok (.i2l, 1) := by decide +kernel
theorem dL_law__578 : decode cL_law_ 578 = .ok (.lcmp, 1) := by decide +kernel
theorem dL_law__579 : decode cL_law_ 579 = .ok (.ifCond .eq 5, 3) := by decide +kernel
theorem dL_law__582 : decode cL_law_ 582 = .ok (.iconst 0, 1) := by decide +kernel
theorem dL_law__583 : decode cL_law_ 583 = .ok (.ireturn, 1) := by decide +kernel
theorem dL_law__584 : decode cL_law_ 584 = .ok (.goto 2311, 3) := by decide +kernel
theorem dL_law__587 : decode cL_law_ 587 = .ok (.aload_n 1, 1) := by decide +kernel
theorem dL_law__588 : decode cL_law_ 588 = .ok (.aload_n 0, 1) := by decide +kernel
theorem dL_law__589 : decode cL_law_ 589 = .ok (.iload 4, 2) := by decide +kernel
theorem dL_law__591 : decode cL_law_ 591 = .ok (.iconst 1, 1) := by decide +kernel
theorem dL_law__592 : decode cL_law_ 592 = .ok (.iadd, 1) := by decide +kernel
theorem dL_law__593 : decode cL_law_ 593 = .ok (.iaload, 1) := by decide +kernel
theorem dL_law__594 : decode cL_law_ 594 = .ok (.aload_n 0, 1) := by decide +kernel
theorem dL_law__595 : decode cL_law_ 595 = .ok (.iload 4, 2) := by decide +kernel
theorem dL_law__597 : decode cL_law_ 597 = .ok (.iconst 2, 1) := by decide +kernel
theorem dL_law__598 : decode cL_law_ 598 = .ok (.iadd, 1) := by decide +kernel
theorem dL_law__599 : decode cL_law_ 599 = .ok (.iaload, 1) := by decide +kernel
theorem dL_law__600 : decode cL_law_ 600 = .ok (.aload_n 0, 1) := by decide +kernel
theorem dL_law__601 : decode cL_law_ 601 = .ok (.iload 4, 2) := by decide +kernel
theorem dL_law__603 : decode cL_law_ 603 = .ok (.iconst 3, 1) := by decide +kernel
theorem dL_law__604 : decode cL_law_ 604 = .ok (.iadd, 1) := by decide +kernel
theorem dL_law__605 : decode cL_law_ 605 = .ok (.iaload, 1) := by decide +kernel
theorem dL_law__606 : decode cL_law_ 606 = .ok (.ifCond .eq 7, 3) := by decide +kernel
theorem dL_law__609 : decode cL_law_ 609 = .ok (.iconst 1, 1) := by decide +kernel
theorem dL_law__610 : decode cL_law_ 610 = .ok (.goto 4, 3) := by decide +kernel
theorem dL_law__613 : decode cL_law_ 613 = .ok (.iconst 0, 1) := by decide +kernel
theorem dL_law__614 : decode cL_law_ 614 = .ok (.aload_n 3, 1) := by decide +kernel
theorem dL_law__615 : decode cL_law_ 615 = .ok (.invokestatic 167, 3) := by decide +kernel
theorem dL_law__618 : decode cL_law_ 618 = .ok (.istore 5, 2) := by decide +kernel
theorem dL_law__620 : decode cL_law_ 620 = .ok (.aload_n 2, 1) := by decide +kernel
theorem dL_law__621 : decode cL_law_ 621 = .ok (.aload_n 0, 1) := by decide +kernel
theorem dL_law__622 : decode cL_law_ 622 = .ok (.iload 4, 2) := by decide +kernel
theorem dL_law__624 : decode cL_law_ 624 = .ok (.iconst 1, 1) := by decide +kernel
theorem dL_law__625 : decode cL_law_ 625 = .ok (.iadd, 1) := by decide +kernel
theorem dL_law__626 : decode cL_law_ 626 = .ok (.iaload, 1) := by decide +kernel
theorem dL_law__627 : decode cL_law_ 627 = .ok (.aload_n 0, 1) := by decide +kernel
theorem dL_law__628 : decode cL_law_ 628 = .ok (.iload 4, 2) := by decide +kernel
theorem dL_law__630 : decode cL_law_ 630 = .ok (.iconst 2, 1) := by decide +kernel
theorem dL_law__631 : decode cL_law_ 631 = .ok (.iadd, 1) := by decide +kernel
theorem dL_law__632 : decode cL_law_ 632 = .ok (.iaload, 1) := by decide +kernel
theorem dL_law__633 : decode cL_law_ 633 = .ok (.aload_n 0, 1) := by decide +kernel
theorem dL_law__634 : decode cL_law_ 634 = .ok (.iload 4, 2) := by decide +kernel
theorem dL_law__636 : decode cL_law_ 636 = .ok (.iconst 3, 1) := by decide +kernel
theorem dL_law__637 : decode cL_law_ 637 = .ok (.iadd, 1) := by decide +kernel
theorem dL_law__638 : decode cL_law_ 638 = .ok (.iaload, 1) := by decide +kernel
theorem dL_law__639 : decode cL_law_ 639 = .ok (.ifCond .eq 7, 3) := by decide +kernel
theorem dL_law__642 : decode cL_law_ 642 = .ok (.iconst 1, 1) := by decide +kernel
theorem dL_law__643 : decode cL_law_ 643 = .ok (.goto 4, 3) := by decide +kernel
theorem dL_law__646 : decode cL_law_ 646 = .ok (.iconst 0, 1) := by decide +kernel
theorem dL_law__647 : decode cL_law_ 647 = .ok (.invokevirtual 170, 3) := by decide +kernel
theorem dL_law__650 : decode cL_law_ 650 = .ok (.istore 6, 2) := by decide +kernel
theorem dL_law__652 : decode cL_law_ 652 = .ok (.aload_n 2, 1) := by decide +kernel
theorem dL_law__653 : decode cL_law_ 653 = .ok (.invokevirtual 150, 3) := by decide +kernel
theorem dL_law__656 : decode cL_law_ 656 = .ok (.iload 5, 2) := by decide +kernel
theorem dL_law__658 : decode cL_law_ 658 = .ok (.if_icmp .eq 5, 3) := by decide +kernel
theorem dL_law__661 : decode cL_law_ 661 = .ok (.iconst 0, 1) := by decide +kernel
theorem dL_law__662 : decode cL_law_ 662 = .ok (.ireturn, 1) := by decide +kernel
theorem dL_law__663 : decode cL_law_ 663 = .ok (.iload 5, 2) := by decide +kernel
theorem dL_law__665 : decode cL_law_ 665 = .ok (.ifCond .ne 15, 3) := by decide +kernel
theorem dL_law__668 : decode cL_law_ 668 = .ok (.aload_n 3, 1) := by decide +kernel
theorem dL_law__669 : decode cL_law_ 669 = .ok (.iconst 0, 1) := by decide +kernel
theorem dL_law__670 : decode cL_law_ 670 = .ok (.laload, 1) := by decide +kernel
theorem dL_law__671 : decode cL_law_ 671 = .ok (.iload 6, 2) := by decide +kernel
theorem dL_law__673 : decode cL_law_ 673 = .ok (.i2l, 1) := by decide +kernel
theorem dL_law__674 : decode cL_law_ 674 = .ok (.lcmp, 1) := by decide +kernel
theorem dL_law__675 : decode cL_law_ 675 = .ok (.ifCond .eq 5, 3) := by decide +kernel
theorem dL_law__678 : decode cL_law_ 678 = .ok (.iconst 0, 1) := by decide +kernel
theorem dL_law__679 : decode cL_law_ 679 = .ok (.ireturn, 1) := by decide +kernel
theorem dL_law__680 : decode cL_law_ 680 = .ok (.goto 2215, 3) := by decide +kernel
theorem dL_law__683 : decode cL_law_ 683 = .ok (.aload_n 1, 1) := by decide +kernel
theorem dL_law__684 : decode cL_law_ 684 = .ok (.aload_n 0, 1) := by decide +kernel
theorem dL_law__685 : decode cL_law_ 685 = .ok (.iload 4, 2) := by decide +kernel
theorem dL_law__687 : decode cL_law_ 687 = .ok (.iconst 1, 1) := by decide +kernel
theorem dL_law__688 : decode cL_law_ 688 = .ok (.iadd, 1) := by decide +kernel
theorem dL_law__689 : decode cL_law_ 689 = .ok (.iaload, 1) := by decide +kernel
theorem dL_law__690 : decode cL_law_ 690 = .ok (.aload_n 0, 1) := by decide +kernel
theorem dL_law__691 : decode cL_law_ 691 = .ok (.iload 4, 2) := by decide +kernel
theorem dL_law__693 : decode cL_law_ 693 = .ok (.iconst 2, 1) := by decide +kernel
theorem dL_law__694 : decode cL_law_ 694 = .ok (.iadd, 1) := by decide +kernel
theorem dL_law__695 : decode cL_law_ 695 = .ok (.iaload, 1) := by decide +kernel
theorem dL_law__696 : decode cL_law_ 696 = .ok (.aload_n 0, 1) := by decide +kernel
theorem dL_law__697 : decode cL_law_ 697 = .ok (.iload 4, 2) := by decide +kernel
theorem dL_law__699 : decode cL_law_ 699 = .ok (.iconst 3, 1) := by decide +kernel
theorem dL_law__700 : decode cL_law_ 700 = .ok (.iadd, 1) := by decide +kernel
theorem dL_law__701 : decode cL_law_ 701 = .ok (.iaload, 1) := by decide +kernel
theorem dL_law__702 : decode cL_law_ 702 = .ok (.aload_n 0, 1) := by decide +kernel
theorem dL_law__703 : decode cL_law_ 703 = .ok (.iload 4, 2) := by decide +kernel
theorem dL_law__705 : decode cL_law_ 705 = .ok (.iconst 4, 1) := by decide +kernel
theorem dL_law__706 : decode cL_law_ 706 = .ok (.iadd, 1) := by decide +kernel
theorem dL_law__707 : decode cL_law_ 707 = .ok (.iaload, 1) := by decide +kernel
theorem dL_law__708 : decode cL_law_ 708 = .ok (.aload_n 0, 1) := by decide +kernel
theorem dL_law__709 : decode cL_law_ 709 = .ok (.iload 4, 2) := by decide +kernel
theorem dL_law__711 : decode cL_law_ 711 = .ok (.iconst 5, 1) := by decide +kernel
theorem dL_law__712 : decode cL_law_ 712 = .ok (.iadd, 1) := by decide +kernel
theorem dL_law__713 : decode cL_law_ 713 = .ok (.iaload, 1) := by decide +kernel
theorem dL_law__714 : decode cL_law_ 714 = .ok (.aload_n 3, 1) := by decide +kernel
theorem dL_law__715 : decode cL_law_ 715 = .ok (.invokestatic 171, 3) := by decide +kernel
theorem dL_law__718 : decode cL_law_ 718 = .ok (.istore 5, 2) := by decide +kernel
theorem dL_law__720 : decode cL_law_ 720 = .ok (.aload_n 2, 1) := by decide +kernel
theorem dL_law__721 : decode cL_law_ 721 = .ok (.aload_n 0, 1) := by decide +kernel
theorem dL_law__722 : decode cL_law_ 722 = .ok (.iload 4, 2) := by decide +kernel
theorem dL_law__724 : decode cL_law_ 724 = .ok (.iconst 1, 1) := by decide +kernel
theorem dL_law__725 : decode cL_law_ 725 = .ok (.iadd, 1) := by decide +kernel
theorem dL_law__726 : decode cL_law_ 726 = .ok (.iaload, 1) := by decide +kernel
theorem dL_law__727 : decode cL_law_ 727 = .ok (.aload_n 0, 1) := by decide +kernel
theorem dL_law__728 : decode cL_law_ 728 = .ok (.iload 4, 2) := by decide +kernel
theorem dL_law__730 : decode cL_law_ 730 = .ok (.iconst 2, 1) := by decide +kernel
theorem dL_law__731 : decode cL_law_ 731 = .ok (.iadd, 1) := by decide +kernel
theorem dL_law__732 : decode cL_law_ 732 = .ok (.iaload, 1) := by decide +kernel
theorem dL_law__733 : decode cL_law_ 733 = .ok (.aload_n 0, 1) := by decide +kernel
theorem dL_law__734 : decode cL_law_ 734 = .ok (.iload 4, 2) := by decide +kernel
theorem dL_law__736 : decode cL_law_ 736 = .ok (.iconst 3, 1) := by decide +kernel
theorem dL_law__737 : decode cL_law_ 737 = .ok (.iadd, 1) := by decide +kernel
theorem dL_law__738 : decode cL_law_ 738 = .ok (.iaload, 1) := by decide +kernel
theorem dL_law__739 : decode cL_law_ 739 = .ok (.aload_n 0, 1) := by decide +kernel
theorem dL_law__740 : decode cL_law_ 740 = .ok (.iload 4, 2) := by decide +kernel
theorem dL_law__742 : decode cL_law_ 742 = .ok (.iconst 4, 1) := by decide +kernel
theorem dL_law__743 : decode cL_law_ 743 = .ok (.iadd, 1) := by decide +kernel
theorem dL_law__744 : decode cL_law_ 744 = .ok (.iaload, 1) := by decide +kernel
theorem dL_law__745 : decode cL_law_ 745 = .ok (.aload_n 0, 1) := by decide +kernel
theorem dL_law__746 : decode cL_law_ 746 = .ok (.iload 4, 2) := by decide +kernel
theorem dL_law__748 : decode cL_law_ 748 = .ok (.iconst 5, 1) := by decide +kernel
theorem dL_law__749 : decode cL_law_ 749 = .ok (.iadd, 1) := by decide +kernel
theorem dL_law__750 : decode cL_law_ 750 = .ok (.iaload, 1) := by decide +kernel
theorem dL_law__751 : decode cL_law_ 751 = .ok (.invokevirtual 174, 3) := by decide +kernel
theorem dL_law__754 : decode cL_law_ 754 = .ok (.istore 6, 2) := by decide +kernel
theorem dL_law__756 : decode cL_law_ 756 = .ok (.aload_n 2, 1) := by decide +kernel
theorem dL_law__757 : decode cL_law_ 757 = .ok (.invokevirtual 150, 3) := by decide +kernel
theorem dL_law__760 : decode cL_law_ 760 = .ok (.iload 5, 2) := by decide +kernel
theorem dL_law__762 : decode cL_law_ 762 = .ok (.if_icmp .eq 5, 3) := by decide +kernel
theorem dL_law__765 : decode cL_law_ 765 = .ok (.iconst 0, 1) := by decide +kernel
theorem dL_law__766 : decode cL_law_ 766 = .ok (.ireturn, 1) := by decide +kernel
theorem dL_law__767 : decode cL_law_ 767 = .ok (.iload 5, 2) := by decide +kernel
theorem dL_law__769 : decode cL_law_ 769 = .ok (.ifCond .ne 15, 3) := by decide +kernel
theorem dL_law__772 : decode cL_law_ 772 = .ok (.aload_n 3, 1) := by decide +kernel
theorem dL_law__773 : decode cL_law_ 773 = .ok (.iconst 0, 1) := by decide +kernel
theorem dL_law__774 : decode cL_law_ 774 = .ok (.laload, 1) := by decide +kernel
theorem dL_law__775 : decode cL_law_ 775 = .ok (.iload 6, 2) := by decide +kernel
theorem dL_law__777 : decode cL_law_ 777 = .ok (.i2l, 1) := by decide +kernel
theorem dL_law__778 : decode cL_law_ 778 = .ok (.lcmp, 1) := by decide +kernel
theorem dL_law__779 : decode cL_law_ 779 = .ok (.ifCond .eq 5, 3) := by decide +kernel
theorem dL_law__782 : decode cL_law_ 782 = .ok (.iconst 0, 1) := by decide +kernel
theorem dL_law__783 : decode cL_law_ 783 = .ok (.ireturn, 1) := by decide +kernel
theorem dL_law__784 : decode cL_law_ 784 = .ok (.goto 2111, 3) := by decide +kernel
theorem dL_law__787 : decode cL_law_ 787 = .ok (.aload_n 1, 1) := by decide +kernel
theorem dL_law__788 : decode cL_law_ 788 = .ok (.aload_n 0, 1) := by decide +kernel
theorem dL_law__789 : decode cL_law_ 789 = .ok (.iload 4, 2) := by decide +kernel
theorem dL_law__791 : decode cL_law_ 791 = .ok (.iconst 1, 1) := by decide +kernel
theorem dL_law__792 : decode cL_law_ 792 = .ok (.iadd, 1) := by decide +kernel
theorem dL_law__793 : decode cL_law_ 793 = .ok (.iaload, 1) := by decide +kernel
theorem dL_law__794 : decode cL_law_ 794 = .ok (.aload_n 0, 1) := by decide +kernel
theorem dL_law__795 : decode cL_law_ 795 = .ok (.iload 4, 2) := by decide +kernel
theorem dL_law__797 : decode cL_law_ 797 = .ok (.iconst 2, 1) := by decide +kernel
theorem dL_law__798 : decode cL_law_ 798 = .ok (.iadd, 1) := by decide +kernel
theorem dL_law__799 : decode cL_law_ 799 = .ok (.iaload, 1) := by decide +kernel
theorem dL_law__800 : decode cL_law_ 800 = .ok (.aload_n 3, 1) := by decide +kernel
theorem dL_law__801 : decode cL_law_ 801 = .ok (.invokestatic 175, 3) := by decide +kernel
theorem dL_law__804 : decode cL_law_ 804 = .ok (.istore 5, 2) := by decide +kernel
theorem dL_law__806 : decode cL_law_ 806 = .ok (.aload_n 2, 1) := by decide +kernel
theorem dL_law__807 : decode cL_law_ 807 = .ok (.aload_n 0, 1) := by decide +kernel
theorem dL_law__808 : decode cL_law_ 808 = .ok (.iload 4, 2) := by decide +kernel
theorem dL_law__810 : decode cL_law_ 810 = .ok (.iconst 1, 1) := by decide +kernel
theorem dL_law__811 : decode cL_law_ 811 = .ok (.iadd, 1) := by decide +kernel
theorem dL_law__812 : decode cL_law_ 812 = .ok (.iaload, 1) := by decide +kernel
theorem dL_law__813 : decode cL_law_ 813 = .ok (.aload_n 0, 1) := by decide +kernel
theorem dL_law__814 : decode cL_law_ 814 = .ok (.iload 4, 2) := by decide +kernel
theorem dL_law__816 : decode cL_law_ 816 = .ok (.iconst 2, 1) := by decide +kernel
theorem dL_law__817 : decode cL_law_ 817 = .ok (.iadd, 1) := by decide +kernel
theorem dL_law__818 : decode cL_law_ 818 = .ok (.iaload, 1) := by decide +kernel
theorem dL_law__819 : decode cL_law_ 819 = .ok (.invokevirtual 177, 3) := by decide +kernel
theorem dL_law__822 : decode cL_law_ 822 = .ok (.istore 6, 2) := by decide +kernel
theorem dL_law__824 : decode cL_law_ 824 = .ok (.aload_n 2, 1) := by decide +kernel
theorem dL_law__825 : decode cL_law_ 825 = .ok (.invokevirtual 150, 3) := by decide +kernel
theorem dL_law__828 : decode cL_law_ 828 = .ok (.iload 5, 2) := by decide +kernel
theorem dL_law__830 : decode cL_law_ 830 = .ok (.if_icmp .eq 5, 3) := by decide +kernel
theorem dL_law__833 : decode cL_law_ 833 = .ok (.iconst 0, 1) := by decide +kernel
theorem dL_law__834 : decode cL_law_ 834 = .ok (.ireturn, 1) := by decide +kernel
theorem dL_law__835 : decode cL_law_ 835 = .ok (.iload 5, 2) := by decide +kernel
theorem dL_law__837 : decode cL_law_ 837 = .ok (.ifCond .ne 15, 3) := by decide +kernel
theorem dL_law__840 : decode cL_law_ 840 = .ok (.aload_n 3, 1) := by decide +kernel
theorem dL_law__841 : decode cL_law_ 841 = .ok (.iconst 0, 1) := by decide +kernel
theorem dL_law__842 : decode cL_law_ 842 = .ok (.laload, 1) := by decide +kernel
theorem dL_law__843 : decode cL_law_ 843 = .ok (.iload 6, 2) := by decide +kernel
theorem dL_law__845 : decode cL_law_ 845 = .ok (.i2l, 1) := by decide +kernel
theorem dL_law__846 : decode cL_law_ 846 = .ok (.lcmp, 1) := by decide +kernel
theorem dL_law__847 : decode cL_law_ 847 = .ok (.ifCond .eq 5, 3) := by decide +kernel
theorem dL_law__850 : decode cL_law_ 850 = .ok (.iconst 0, 1) := by decide +kernel
theorem dL_law__851 : decode cL_law_ 851 = .ok (.ireturn, 1) := by decide +kernel
theorem dL_law__852 : decode cL_law_ 852 = .ok (.goto 2043, 3) := by decide +kernel
theorem dL_law__855 : decode cL_law_ 855 = .ok (.aload_n 1, 1) := by decide +kernel
theorem dL_law__856 : decode cL_law_ 856 = .ok (.aload_n 0, 1) := by decide +kernel
theorem dL_law__857 : decode cL_law_ 857 = .ok (.iload 4, 2) := by decide +kernel
theorem dL_law__859 : decode cL_law_ 859 = .ok (.iconst 1, 1) := by decide +kernel
theorem dL_law__860 : decode cL_law_ 860 = .ok (.iadd, 1) := by decide +kernel
theorem dL_law__861 : decode cL_law_ 861 = .ok (.iaload, 1) := by decide +kernel
theorem dL_law__862 : decode cL_law_ 862 = .ok (.aload_n 0, 1) := by decide +kernel
theorem dL_law__863 : decode cL_law_ 863 = .ok (.iload 4, 2) := by decide +kernel
theorem dL_law__865 : decode cL_law_ 865 = .ok (.iconst 2, 1) := by decide +kernel
theorem dL_law__866 : decode cL_law_ 866 = .ok (.iadd, 1) := by decide +kernel
theorem dL_law__867 : decode cL_law_ 867 = .ok (.iaload, 1) := by decide +kernel
theorem dL_law__868 : decode cL_law_ 868 = .ok (.aload_n 3, 1) := by decide +kernel
theorem dL_law__869 : decode cL_law_ 869 = .ok (.invokestatic 178, 3) := by decide +kernel
theorem dL_law__872 : decode cL_law_ 872 = .ok (.istore 5, 2) := by decide +kernel
theorem dL_law__874 : decode cL_law_ 874 = .ok (.aload_n 2, 1) := by decide +kernel
theorem dL_law__875 : decode cL_law_ 875 = .ok (.aload_n 0, 1) := by decide +kernel
theorem dL_law__876 : decode cL_law_ 876 = .ok (.iload 4, 2) := by decide +kernel
theorem dL_law__878 : decode cL_law_ 878 = .ok (.iconst 1, 1) := by decide +kernel
theorem dL_law__879 : decode cL_law_ 879 = .ok (.iadd, 1) := by decide +kernel
theorem dL_law__880 : decode cL_law_ 880 = .ok (.iaload, 1) := by decide +kernel
theorem dL_law__881 : decode cL_law_ 881 = .ok (.aload_n 0, 1) := by decide +kernel
theorem dL_law__882 : decode cL_law_ 882 = .ok (.iload 4, 2) := by decide +kernel
theorem dL_law__884 : decode cL_law_ 884 = .ok (.iconst 2, 1) := by decide +kernel
theorem dL_law__885 : decode cL_law_ 885 = .ok (.iadd, 1) := by decide +kernel
theorem dL_law__886 : decode cL_law_ 886 = .ok (.iaload, 1) := by decide +kernel
theorem dL_law__887 : decode cL_law_ 887 = .ok (.invokevirtual 180, 3) := by decide +kernel
theorem dL_law__890 : decode cL_law_ 890 = .ok (.istore 6, 2) := by decide +kernel
theorem dL_law__892 : decode cL_law_ 892 = .ok (.aload_n 2, 1) := by decide +kernel
theorem dL_law__893 : decode cL_law_ 893 = .ok (.invokevirtual 150, 3) := by decide +kernel
theorem dL_law__896 : decode cL_law_ 896 = .ok (.iload 5, 2) := by decide +kernel
theorem dL_law__898 : decode cL_law_ 898 = .ok (.if_icmp .eq 5, 3) := by decide +kernel
theorem dL_law__901 : decode cL_law_ 901 = .ok (.iconst 0, 1) := by decide +kernel
theorem dL_law__902 : decode cL_law_ 902 = .ok (.ireturn, 1) := by decide +kernel
theorem dL_law__903 : decode cL_law_ 903 = .ok (.iload 5, 2) := by decide +kernel
theorem dL_law__905 : decode cL_law_ 905 = .ok (.ifCond .ne 15, 3) := by decide +kernel
theorem dL_law__908 : decode cL_law_ 908 = .ok (.aload_n 3, 1) := by decide +kernel
theorem dL_law__909 : decode cL_law_ 909 = .ok (.iconst 0, 1) := by decide +kernel
theorem dL_law__910 : decode cL_law_ 910 = .ok (.laload, 1) := by decide +kernel
theorem dL_law__911 : decode cL_law_ 911 = .ok (.iload 6, 2) := by decide +kernel
theorem dL_law__913 : decode cL_law_ 913 = .ok (.i2l, 1) := by decide +kernel
theorem dL_law__914 : decode cL_law_ 914 = .ok (.lcmp, 1) := by decide +kernel
theorem dL_law__915 : decode cL_law_ 915 = .ok (.ifCond .eq 5, 3) := by decide +kernel
theorem dL_law__918 : decode cL_law_ 918 = .ok (.iconst 0, 1) := by decide +kernel
theorem dL_law__919 : decode cL_law_ 919 = .ok (.ireturn, 1) := by decide +kernel
theorem dL_law__920 : decode cL_law_ 920 = .ok (.goto 1975, 3) := by decide +kernel
theorem dL_law__923 : decode cL_law_ 923 = .ok (.aload_n 1, 1) := by decide +kernel
theorem dL_law__924 : decode cL_law_ 924 = .ok (.aload_n 0, 1) := by decide +kernel
theorem dL_law__925 : decode cL_law_ 925 = .ok (.iload 4, 2) := by decide +kernel
theorem dL_law__927 : decode cL_law_ 927 = .ok (.iconst 1, 1) := by decide +kernel
theorem dL_law__928 : decode cL_law_ 928 = .ok (.iadd, 1) := by decide +kernel
theorem dL_law__929 : decode cL_law_ 929 = .ok (.iaload, 1) := by decide +kernel
theorem dL_law__930 : decode cL_law_ 930 = .ok (.aload_n 0, 1) := by decide +kernel
theorem dL_law__931 : decode cL_law_ 931 = .ok (.iload 4, 2) := by decide +kernel
theorem dL_law__933 : decode cL_law_ 933 = .ok (.iconst 2, 1) := by decide +kernel
theorem dL_law__934 : decode cL_law_ 934 = .ok (.iadd, 1) := by decide +kernel
theorem dL_law__935 : decode cL_law_ 935 = .ok (.iaload, 1) := by decide +kernel
theorem dL_law__936 : decode cL_law_ 936 = .ok (.aload_n 3, 1) := by decide +kernel
theorem dL_law__937 : decode cL_law_ 937 = .ok (.invokestatic 181, 3) := by decide +kernel
theorem dL_law__940 : decode cL_law_ 940 = .ok (.istore 5, 2) := by decide +kernel
theorem dL_law__942 : decode cL_law_ 942 = .ok (.aload_n 2, 1) := by decide +kernel
theorem dL_law__943 : decode cL_law_ 943 = .ok (.aload_n 0, 1) := by decide +kernel
theorem dL_law__944 : decode cL_law_ 944 = .ok (.iload 4, 2) := by decide +kernel
theorem dL_law__946 : decode cL_law_ 946 = .ok (.iconst 1, 1) := by decide +kernel
theorem dL_law__947 : decode cL_law_ 947 = .ok (.iadd, 1) := by decide +kernel
theorem dL_law__948 : decode cL_law_ 948 = .ok (.iaload, 1) := by decide +kernel
theorem dL_law__949 : decode cL_law_ 949 = .ok (.aload_n 0, 1) := by decide +kernel
theorem dL_law__950 : decode cL_law_ 950 = .ok (.iload 4, 2) := by decide +kernel
theorem dL_law__952 : decode cL_law_ 952 = .ok (.iconst 2, 1) := by decide +kernel
theorem dL_law__953 : decode cL_law_ 953 = .ok (.iadd, 1) := by decide +kernel
theorem dL_law__954 : decode cL_law_ 954 = .ok (.iaload, 1) := by decide +kernel
theorem dL_law__955 : decode cL_law_ 955 = .ok (.invokevirtual 183, 3) := by decide +kernel
theorem dL_law__958 : decode cL_law_ 958 = .ok (.istore 6, 2) := by decide +kernel
theorem dL_law__960 : decode cL_law_ 960 = .ok (.aload_n 2, 1) := by decide +kernel
theorem dL_law__961 : decode cL_law_ 961 = .ok (.invokevirtual 150, 3) := by decide +kernel
theorem dL_law__964 : decode cL_law_ 964 = .ok (.iload 5, 2) := by decide +kernel
theorem dL_law__966 : decode cL_law_ 966 = .ok (.if_icmp .eq 5, 3) := by decide +kernel
theorem dL_law__969 : decode cL_law_ 969 = .ok (.iconst 0, 1) := by decide +kernel
theorem dL_law__970 : decode cL_law_ 970 = .ok (.ireturn, 1) := by decide +kernel
theorem dL_law__971 : decode cL_law_ 971 = .ok (.iload 5, 2) := by decide +kernel
theorem dL_law__973 : decode cL_law_ 973 = .ok (.ifCond .ne 15, 3) := by decide +kernel
theorem dL_law__976 : decode cL_law_ 976 = .ok (.aload_n 3, 1) := by decide +kernel
theorem dL_law__977 : decode cL_law_ 977 = .ok (.iconst 0, 1) := by decide +kernel
theorem dL_law__978 : decode cL_law_ 978 = .ok (.laload, 1) := by decide +kernel
theorem dL_law__979 : decode cL_law_ 979 = .ok (.iload 6, 2) := by decide +kernel
theorem dL_law__981 : decode cL_law_ 981 = .ok (.i2l, 1) := by decide +kernel
theorem dL_law__982 : decode cL_law_ 982 = .ok (.lcmp, 1) := by decide +kernel
theorem dL_law__983 : decode cL_law_ 983 = .ok (.ifCond .eq 5, 3) := by decide +kernel
theorem dL_law__986 : decode cL_law_ 986 = .ok (.iconst 0, 1) := by decide +kernel
theorem dL_law__987 : decode cL_law_ 987 = .ok (.ireturn, 1) := by decide +kernel
theorem dL_law__988 : decode cL_law_ 988 = .ok (.goto 1907, 3) := by decide +kernel
theorem dL_law__991 : decode cL_law_ 991 = .ok (.aload_n 1, 1) := by decide +kernel
theorem dL_law__992 : decode cL_law_ 992 = .ok (.aload_n 0, 1) := by decide +kernel
theorem dL_law__993 : decode cL_law_ 993 = .ok (.iload 4, 2) := by decide +kernel
theorem dL_law__995 : decode cL_law_ 995 = .ok (.iconst 1, 1) := by decide +kernel
theorem dL_law__996 : decode cL_law_ 996 = .ok (.iadd, 1) := by decide +kernel
theorem dL_law__997 : decode cL_law_ 997 = .ok (.iaload, 1) := by decide +kernel
theorem dL_law__998 : decode cL_law_ 998 = .ok (.aload_n 0, 1) := by decide +kernel
theorem dL_law__999 : decode cL_law_ 999 = .ok (.iload 4, 2) := by decide +kernel
theorem dL_law__1001 : decode cL_law_ 1001 = .ok (.iconst 2, 1) := by decide +kernel
theorem dL_law__1002 : decode cL_law_ 1002 = .ok (.iadd, 1) := by decide +kernel
theorem dL_law__1003 : decode cL_law_ 1003 = .ok (.iaload, 1) := by decide +kernel
theorem dL_law__1004 : decode cL_law_ 1004 = .ok (.ifCond .eq 7, 3) := by decide +kernel
theorem dL_law__1007 : decode cL_law_ 1007 = .ok (.iconst 1, 1) := by decide +kernel
theorem dL_law__1008 : decode cL_law_ 1008 = .ok (.goto 4, 3) := by decide +kernel
theorem dL_law__1011 : decode cL_law_ 1011 = .ok (.iconst 0, 1) := by decide +kernel
theorem dL_law__1012 : decode cL_law_ 1012 = .ok (.aload_n 3, 1) := by decide +kernel
theorem dL_law__1013 : decode cL_law_ 1013 = .ok (.invokestatic 184, 3) := by decide +kernel
theorem dL_law__1016 : decode cL_law_ 1016 = .ok (.istore 5, 2) := by decide +kernel
theorem dL_law__1018 : decode cL_law_ 1018 = .ok (.aload_n 2, 1) := by decide +kernel
theorem dL_law__1019 : decode cL_law_ 1019 = .ok (.aload_n 0, 1) := by decide +kernel
theorem dL_law__1020 : decode cL_law_ 1020 = .ok (.iload 4, 2) := by decide +kernel
theorem dL_law__1022 : decode cL_law_ 1022 = .ok (.iconst 1, 1) := by decide +kernel
theorem dL_law__1023 : decode cL_law_ 1023 = .ok (.iadd, 1) := by decide +kernel
theorem dL_law__1024 : decode cL_law_ 1024 = .ok (.iaload, 1) := by decide +kernel
theorem dL_law__1025 : decode cL_law_ 1025 = .ok (.aload_n 0, 1) := by decide +kernel
theorem dL_law__1026 : decode cL_law_ 1026 = .ok (.iload 4, 2) := by decide +kernel
theorem dL_law__1028 : decode cL_law_ 1028 = .ok (.iconst 2, 1) := by decide +kernel
theorem dL_law__1029 : decode cL_law_ 1029 = .ok (.iadd, 1) := by decide +kernel
theorem dL_law__1030 : decode cL_law_ 1030 = .ok (.iaload, 1) := by decide +kernel
theorem dL_law__1031 : decode cL_law_ 1031 = .ok (.ifCond .eq 7, 3) := by decide +kernel
theorem dL_law__1034 : decode cL_law_ 1034 = .ok (.iconst 1, 1) := by decide +kernel
theorem dL_law__1035 : decode cL_law_ 1035 = .ok (.goto 4, 3) := by decide +kernel
theorem dL_law__1038 : decode cL_law_ 1038 = .ok (.iconst 0, 1) := by decide +kernel
theorem dL_law__1039 : decode cL_law_ 1039 = .ok (.invokevirtual 187, 3) := by decide +kernel
theorem dL_law__1042 : decode cL_law_ 1042 = .ok (.istore 6, 2) := by decide +kernel
theorem dL_law__1044 : decode cL_law_ 1044 = .ok (.aload_n 2, 1) := by decide +kernel
theorem dL_law__1045 : decode cL_law_ 1045 = .ok (.invokevirtual 150, 3) := by decide +kernel
theorem dL_law__1048 : decode cL_law_ 1048 = .ok (.iload 5, 2) := by decide +kernel
theorem dL_law__1050 : decode cL_law_ 1050 = .ok (.if_icmp .eq 5, 3) := by decide +kernel
theorem dL_law__1053 : decode cL_law_ 1053 = .ok (.iconst 0, 1) := by decide +kernel
theorem dL_law__1054 : decode cL_law_ 1054 = .ok (.ireturn, 1) := by decide +kernel
theorem dL_law__1055 : decode cL_law_ 1055 = .ok (.iload 5, 2) := by decide +kernel
theorem dL_law__1057 : decode cL_law_ 1057 = .ok (.ifCond .ne 22, 3) := by decide +kernel
theorem dL_law__1060 : decode cL_law_ 1060 = .ok (.aload_n 3, 1) := by decide +kernel
theorem dL_law__1061 : decode cL_law_ 1061 = .ok (.iconst 0, 1) := by decide +kernel
theorem dL_law__1062 : decode cL_law_ 1062 = .ok (.laload, 1) := by decide +kernel
theorem dL_law__1063 : decode cL_law_ 1063 = .ok (.iload 6, 2) := by decide +kernel
theorem dL_law__1065 : decode cL_law_ 1065 = .ok (.ifCond .eq 7, 3) := by decide +kernel
theorem dL_law__1068 : decode cL_law_ 1068 = .ok (.lconst 1, 1) := by decide +kernel
theorem dL_law__1069 : decode cL_law_ 1069 = .ok (.goto 4, 3) := by decide +kernel
theorem dL_law__1072 : decode cL_law_ 1072 = .ok (.lconst 0, 1) := by decide +kernel
theorem dL_law__1073 : decode cL_law_ 1073 = .ok (.lcmp, 1) := by decide +kernel
theorem dL_law__1074 : decode cL_law_ 1074 = .ok (.ifCond .eq 5, 3) := by decide +kernel
theorem dL_law__1077 : decode cL_law_ 1077 = .ok (.iconst 0, 1) := by decide +kernel
theorem dL_law__1078 : decode cL_law_ 1078 = .ok (.ireturn, 1) := by decide +kernel
theorem dL_law__1079 : decode cL_law_ 1079 = .ok (.goto 1816, 3) := by decide +kernel
theorem dL_law__1082 : decode cL_law_ 1082 = .ok (.aload_n 1, 1) := by decide +kernel
theorem dL_law__1083 : decode cL_law_ 1083 = .ok (.aload_n 0, 1) := by decide +kernel
theorem dL_law__1084 : decode cL_law_ 1084 = .ok (.iload 4, 2) := by decide +kernel
theorem dL_law__1086 : decode cL_law_ 1086 = .ok (.iconst 1, 1) := by decide +kernel
theorem dL_law__1087 : decode cL_law_ 1087 = .ok (.iadd, 1) := by decide +kernel
theorem dL_law__1088 : decode cL_law_ 1088 = .ok (.iaload, 1) := by decide +kernel
theorem dL_law__1089 : decode cL_law_ 1089 = .ok (.aload_n 0, 1) := by decide +kernel
theorem dL_law__1090 : decode cL_law_ 1090 = .ok (.iload 4, 2) := by decide +kernel
theorem dL_law__1092 : decode cL_law_ 1092 = .ok (.iconst 2, 1) := by decide +kernel
theorem dL_law__1093 : decode cL_law_ 1093 = .ok (.iadd, 1) := by decide +kernel
theorem dL_law__1094 : decode cL_law_ 1094 = .ok (.iaload, 1) := by decide +kernel
theorem dL_law__1095 : decode cL_law_ 1095 = .ok (.invokestatic 188, 3) := by decide +kernel
theorem dL_law__1098 : decode cL_law_ 1098 = .ok (.istore 5, 2) := by decide +kernel
theorem dL_law__1100 : decode cL_law_ 1100 = .ok (.aload_n 2, 1) := by decide +kernel
theorem dL_law__1101 : decode cL_law_ 1101 = .ok (.aload_n 0, 1) := by decide +kernel
theorem dL_law__1102 : decode cL_law_ 1102 = .ok (.iload 4, 2) := by decide +kernel
theorem dL_law__1104 : decode cL_law_ 1104 = .ok (.iconst 1, 1) := by decide +kernel
theorem dL_law__1105 : decode cL_law_ 1105 = .ok (.iadd, 1) := by decide +kernel
theorem dL_law__1106 : decode cL_law_ 1106 = .ok (.iaload, 1) := by decide +kernel
theorem dL_law__1107 : decode cL_law_ 1107 = .ok (.aload_n 0, 1) := by decide +kernel
theorem dL_law__1108 : decode cL_law_ 1108 = .ok (.iload 4, 2) := by decide +kernel
theorem dL_law__1110 : decode cL_law_ 1110 = .ok (.iconst 2, 1) := by decide +kernel
theorem dL_law__1111 : decode cL_law_ 1111 = .ok (.iadd, 1) := by decide +kernel
theorem dL_law__1112 : decode cL_law_ 1112 = .ok (.iaload, 1) := by decide +kernel
theorem dL_law__1113 : decode cL_law_ 1113 = .ok (.invokevirtual 191, 3) := by decide +kernel
theorem dL_law__1116 : decode cL_law_ 1116 = .ok (.aload_n 2, 1) := by decide +kernel
theorem dL_law__1117 : decode cL_law_ 1117 = .ok (.invokevirtual 150, 3) := by decide +kernel
theorem dL_law__1120 : decode cL_law_ 1120 = .ok (.iload 5, 2) := by decide +kernel
theorem dL_law__1122 : decode cL_law_ 1122 = .ok (.if_icmp .eq 5, 3) := by decide +kernel
theorem dL_law__1125 : decode cL_law_ 1125 = .ok (.iconst 0, 1) := by decide +kernel
theorem dL_law__1126 : decode cL_law_ 1126 = .ok (.ireturn, 1) := by decide +kernel
theorem dL_law__1127 : decode cL_law_ 1127 = .ok (.goto 1768, 3) := by decide +kernel
theorem dL_law__1130 : decode cL_law_ 1130 = .ok (.aload_n 1, 1) := by decide +kernel
theorem dL_law__1131 : decode cL_law_ 1131 = .ok (.aload_n 0, 1) := by decide +kernel
theorem dL_law__1132 : decode cL_law_ 1132 = .ok (.iload 4, 2) := by decide +kernel
theorem dL_law__1134 : decode cL_law_ 1134 = .ok (.iconst 1, 1) := by decide +kernel
theorem dL_law__1135 : decode cL_law_ 1135 = .ok (.iadd, 1) := by decide +kernel
theorem dL_law__1136 : decode cL_law_ 1136 = .ok (.iaload, 1) := by decide +kernel
theorem dL_law__1137 : decode cL_law_ 1137 = .ok (.aload_n 3, 1) := by decide +kernel
theorem dL_law__1138 : decode cL_law_ 1138 = .ok (.invokestatic 192, 3) := by decide +kernel
theorem dL_law__1141 : decode cL_law_ 1141 = .ok (.istore 5, 2) := by decide +kernel
theorem dL_law__1143 : decode cL_law_ 1143 = .ok (.aload_n 2, 1) := by decide +kernel
theorem dL_law__1144 : decode cL_law_ 1144 = .ok (.aload_n 0, 1) := by decide +kernel
theorem dL_law__1145 : decode cL_law_ 1145 = .ok (.iload 4, 2) := by decide +kernel
theorem dL_law__1147 : decode cL_law_ 1147 = .ok (.iconst 1, 1) := by decide +kernel
theorem dL_law__1148 : decode cL_law_ 1148 = .ok (.iadd, 1) := by decide +kernel
theorem dL_law__1149 : decode cL_law_ 1149 = .ok (.iaload, 1) := by decide +kernel
theorem dL_law__1150 : decode cL_law_ 1150 = .ok (.invokevirtual 195, 3) := by decide +kernel
theorem dL_law__1153 : decode cL_law_ 1153 = .ok (.istore 6, 2) := by decide +kernel
theorem dL_law__1155 : decode cL_law_ 1155 = .ok (.aload_n 2, 1) := by decide +kernel
theorem dL_law__1156 : decode cL_law_ 1156 = .ok (.invokevirtual 150, 3) := by decide +kernel
theorem dL_law__1159 : decode cL_law_ 1159 = .ok (.iload 5, 2) := by decide +kernel
theorem dL_law__1161 : decode cL_law_ 1161 = .ok (.if_icmp .eq 5, 3) := by decide +kernel
theorem dL_law__1164 : decode cL_law_ 1164 = .ok (.iconst 0, 1) := by decide +kernel
theorem dL_law__1165 : decode cL_law_ 1165 = .ok (.ireturn, 1) := by decide +kernel
theorem dL_law__1166 : decode cL_law_ 1166 = .ok (.iload 5, 2) := by decide +kernel
theorem dL_law__1168 : decode cL_law_ 1168 = .ok (.ifCond .ne 15, 3) := by decide +kernel
theorem dL_law__1171 : decode cL_law_ 1171 = .ok (.aload_n 3, 1) := by decide +kernel
theorem dL_law__1172 : decode cL_law_ 1172 = .ok (.iconst 0, 1) := by decide +kernel
theorem dL_law__1173 : decode cL_law_ 1173 = .ok (.laload, 1) := by decide +kernel
theorem dL_law__1174 : decode cL_law_ 1174 = .ok (.iload 6, 2) := by decide +kernel
theorem dL_law__1176 : decode cL_law_ 1176 = .ok (.i2l, 1) := by decide +kernel
theorem dL_law__1177 : decode cL_law_ 1177 = .ok (.lcmp, 1) := by decide +kernel
theorem dL_law__1178 : decode cL_law_ 1178 = .ok (.ifCond .eq 5, 3) := by decide +kernel
theorem dL_law__1181 : decode cL_law_ 1181 = .ok (.iconst 0, 1) := by decide +kernel
theorem dL_law__1182 : decode cL_law_ 1182 = .ok (.ireturn, 1) := by decide +kernel
theorem dL_law__1183 : decode cL_law_ 1183 = .ok (.goto 1712, 3) := by decide +kernel
theorem dL_law__1186 : decode cL_law_ 1186 = .ok (.aload_n 1, 1) := by decide +kernel
theorem dL_law__1187 : decode cL_law_ 1187 = .ok (.aload_n 0, 1) := by decide +kernel
theorem dL_law__1188 : decode cL_law_ 1188 = .ok (.iload 4, 2) := by decide +kernel
theorem dL_law__1190 : decode cL_law_ 1190 = .ok (.iconst 1, 1) := by decide +kernel
theorem dL_law__1191 : decode cL_law_ 1191 = .ok (.iadd, 1) := by decide +kernel
theorem dL_law__1192 : decode cL_law_ 1192 = .ok (.iaload, 1) := by decide +kernel
theorem dL_law__1193 : decode cL_law_ 1193 = .ok (.aload_n 3, 1) := by decide +kernel
theorem dL_law__1194 : decode cL_law_ 1194 = .ok (.invokestatic 196, 3) := by decide +kernel
theorem dL_law__1197 : decode cL_law_ 1197 = .ok (.istore 5, 2) := by decide +kernel
theorem dL_law__1199 : decode cL_law_ 1199 = .ok (.aload_n 2, 1) := by decide +kernel
theorem dL_law__1200 : decode cL_law_ 1200 = .ok (.aload_n 0, 1) := by decide +kernel
theorem dL_law__1201 : decode cL_law_ 1201 = .ok (.iload 4, 2) := by decide +kernel
theorem dL_law__1203 : decode cL_law_ 1203 = .ok (.iconst 1, 1) := by decide +kernel
theorem dL_law__1204 : decode cL_law_ 1204 = .ok (.iadd, 1) := by decide +kernel
theorem dL_law__1205 : decode cL_law_ 1205 = .ok (.iaload, 1) := by decide +kernel
theorem dL_law__1206 : decode cL_law_ 1206 = .ok (.invokevirtual 198, 3) := by decide +kernel
theorem dL_law__1209 : decode cL_law_ 1209 = .ok (.istore 6, 2) := by decide +kernel
theorem dL_law__1211 : decode cL_law_ 1211 = .ok (.aload_n 2, 1) := by decide +kernel
theorem dL_law__1212 : decode cL_law_ 1212 = .ok (.invokevirtual 150, 3) := by decide +kernel
theorem dL_law__1215 : decode cL_law_ 1215 = .ok (.iload 5, 2) := by decide +kernel
theorem dL_law__1217 : decode cL_law_ 1217 = .ok (.if_icmp .eq 5, 3) := by decide +kernel
theorem dL_law__1220 : decode cL_law_ 1220 = .ok (.iconst 0, 1) := by decide +kernel
theorem dL_law__1221 : decode cL_law_ 1221 = .ok (.ireturn, 1) := by decide +kernel
theorem dL_law__1222 : decode cL_law_ 1222 = .ok (.iload 5, 2) := by decide +kernel
theorem dL_law__1224 : decode cL_law_ 1224 = .ok (.ifCond .ne 15, 3) := by decide +kernel
theorem dL_law__1227 : decode cL_law_ 1227 = .ok (.aload_n 3, 1) := by decide +kernel
theorem dL_law__1228 : decode cL_law_ 1228 = .ok (.iconst 0, 1) := by decide +kernel
theorem dL_law__1229 : decode cL_law_ 1229 = .ok (.laload, 1) := by decide +kernel
theorem dL_law__1230 : decode cL_law_ 1230 = .ok (.iload 6, 2) := by decide +kernel
theorem dL_law__1232 : decode cL_law_ 1232 = .ok (.i2l, 1) := by decide +kernel
theorem dL_law__1233 : decode cL_law_ 1233 = .ok (.lcmp, 1) := by decide +kernel
theorem dL_law__1234 : decode cL_law_ 1234 = .ok (.ifCond .eq 5, 3) := by decide +kernel
theorem dL_law__1237 : decode cL_law_ 1237 = .ok (.iconst 0, 1) := by decide +kernel
theorem dL_law__1238 : decode cL_law_ 1238 = .ok (.ireturn, 1) := by decide +kernel
theorem dL_law__1239 : decode cL_law_ 1239 = .ok (.goto 1656, 3) := by decide +kernel
theorem dL_law__1242 : decode cL_law_ 1242 = .ok (.aload_n 1, 1) := by decide +kernel
theorem dL_law__1243 : decode cL_law_ 1243 = .ok (.invokevirtual 199, 3) := by decide +kernel
theorem dL_law__1246 : decode cL_law_ 1246 = .ok (.aload_n 2, 1) := by decide +kernel
theorem dL_law__1247 : decode cL_law_ 1247 = .ok (.invokevirtual 202, 3) := by decide +kernel
theorem dL_law__1250 : decode cL_law_ 1250 = .ok (.if_icmp .eq 1645, 3) := by decide +kernel
theorem dL_law__1253 : decode cL_law_ 1253 = .ok (.iconst 0, 1) := by decide +kernel
theorem dL_law__1254 : decode cL_law_ 1254 = .ok (.ireturn, 1) := by decide +kernel
theorem dL_law__1255 : decode cL_law_ 1255 = .ok (.aload_n 1, 1) := by decide +kernel
theorem dL_law__1256 : decode cL_law_ 1256 = .ok (.invokevirtual 203, 3) := by decide +kernel
theorem dL_law__1259 : decode cL_law_ 1259 = .ok (.aload_n 2, 1) := by decide +kernel
theorem dL_law__1260 : decode cL_law_ 1260 = .ok (.invokevirtual 206, 3) := by decide +kernel
theorem dL_law__1263 : decode cL_law_ 1263 = .ok (.if_icmp .eq 1632, 3) := by decide +kernel
theorem dL_law__1266 : decode cL_law_ 1266 = .ok (.iconst 0, 1) := by decide +kernel
theorem dL_law__1267 : decode cL_law_ 1267 = .ok (.ireturn, 1) := by decide +kernel
theorem dL_law__1268 : decode cL_law_ 1268 = .ok (.aload_n 1, 1) := by decide +kernel
theorem dL_law__1269 : decode cL_law_ 1269 = .ok (.aload_n 0, 1) := by decide +kernel
theorem dL_law__1270 : decode cL_law_ 1270 = .ok (.iload 4, 2) := by decide +kernel
theorem dL_law__1272 : decode cL_law_ 1272 = .ok (.iconst 1, 1) := by decide +kernel
theorem dL_law__1273 : decode cL_law_ 1273 = .ok (.iadd, 1) := by decide +kernel
theorem dL_law__1274 : decode cL_law_ 1274 = .ok (.iaload, 1) := by decide +kernel
theorem dL_law__1275 : decode cL_law_ 1275 = .ok (.aload_n 3, 1) := by decide +kernel
theorem dL_law__1276 : decode cL_law_ 1276 = .ok (.invokestatic 207, 3) := by decide +kernel
theorem dL_law__1279 : decode cL_law_ 1279 = .ok (.istore 5, 2) := by decide +kernel
theorem dL_law__1281 : decode cL_law_ 1281 = .ok (.aload_n 2, 1) := by decide +kernel
theorem dL_law__1282 : decode cL_law_ 1282 = .ok (.aload_n 0, 1) := by decide +kernel
theorem dL_law__1283 : decode cL_law_ 1283 = .ok (.iload 4, 2) := by decide +kernel
theorem dL_law__1285 : decode cL_law_ 1285 = .ok (.iconst 1, 1) := by decide +kernel
theorem dL_law__1286 : decode cL_law_ 1286 = .ok (.iadd, 1) := by decide +kernel
theorem dL_law__1287 : decode cL_law_ 1287 = .ok (.iaload, 1) := by decide +kernel
theorem dL_law__1288 : decode cL_law_ 1288 = .ok (.invokevirtual 209, 3) := by decide +kernel
theorem dL_law__1291 : decode cL_law_ 1291 = .ok (.istore 6, 2) := by decide +kernel
theorem dL_law__1293 : decode cL_law_ 1293 = .ok (.aload_n 2, 1) := by decide +kernel
theorem dL_law__1294 : decode cL_law_ 1294 = .ok (.invokevirtual 150, 3) := by decide +kernel
theorem dL_law__1297 : decode cL_law_ 1297 = .ok (.iload 5, 2) := by decide +kernel
theorem dL_law__1299 : decode cL_law_ 1299 = .ok (.if_icmp .eq 5, 3) := by decide +kernel
theorem dL_law__1302 : decode cL_law_ 1302 = .ok (.iconst 0, 1) := by decide +kernel
theorem dL_law__1303 : decode cL_law_ 1303 = .ok (.ireturn, 1) := by decide +kernel
theorem dL_law__1304 : decode cL_law_ 1304 = .ok (.iload 5, 2) := by decide +kernel
theorem dL_law__1306 : decode cL_law_ 1306 = .ok (.ifCond .ne 15, 3) := by decide +kernel
theorem dL_law__1309 : decode cL_law_ 1309 = .ok (.aload_n 3, 1) := by decide +kernel
theorem dL_law__1310 : decode cL_law_ 1310 = .ok (.iconst 0, 1) := by decide +kernel
theorem dL_law__1311 : decode cL_law_ 1311 = .ok (.laload, 1) := by decide +kernel
theorem dL_law__1312 : decode cL_law_ 1312 = .ok (.iload 6, 2) := by decide +kernel
theorem dL_law__1314 : decode cL_law_ 1314 = .ok (.i2l, 1) := by decide +kernel
theorem dL_law__1315 : decode cL_law_ 1315 = .ok (.lcmp, 1) := by decide +kernel
theorem dL_law__1316 : decode cL_law_ 1316 = .ok (.ifCond .eq 5, 3) := by decide +kernel
theorem dL_law__1319 : decode cL_law_ 1319 = .ok (.iconst 0, 1) := by decide +kernel
theorem dL_law__1320 : decode cL_law_ 1320 = .ok (.ireturn, 1) := by decide +kernel
theorem dL_law__1321 : decode cL_law_ 1321 = .ok (.goto 1574, 3) := by decide +kernel
theorem dL_law__1324 : decode cL_law_ 1324 = .ok (.aload_n 1, 1) := by decide +kernel
theorem dL_law__1325 : decode cL_law_ 1325 = .ok (.invokevirtual 210, 3) := by decide +kernel
theorem dL_law__1328 : decode cL_law_ 1328 = .ok (.aload_n 2, 1) := by decide +kernel
theorem dL_law__1329 : decode cL_law_ 1329 = .ok (.invokevirtual 213, 3) := by decide +kernel
theorem dL_law__1332 : decode cL_law_ 1332 = .ok (.if_icmp .eq 1563, 3) := by decide +kernel
theorem dL_law__1335 : decode cL_law_ 1335 = .ok (.iconst 0, 1) := by decide +kernel
theorem dL_law__1336 : decode cL_law_ 1336 = .ok (.ireturn, 1) := by decide +kernel
theorem dL_law__1337 : decode cL_law_ 1337 = .ok (.aload_n 1, 1) := by decide +kernel
theorem dL_law__1338 : decode cL_law_ 1338 = .ok (.aload_n 0, 1) := by decide +kernel
theorem dL_law__1339 : decode cL_law_ 1339 = .ok (.iload 4, 2) := by decide +kernel
theorem dL_law__1341 : decode cL_law_ 1341 = .ok (.iconst 1, 1) := by decide +kernel
theorem dL_law__1342 : decode cL_law_ 1342 = .ok (.iadd, 1) := by decide +kernel
theorem dL_law__1343 : decode cL_law_ 1343 = .ok (.iaload, 1) := by decide +kernel
theorem dL_law__1344 : decode cL_law_ 1344 = .ok (.aload_n 0, 1) := by decide +kernel
theorem dL_law__1345 : decode cL_law_ 1345 = .ok (.iload 4, 2) := by decide +kernel
theorem dL_law__1347 : decode cL_law_ 1347 = .ok (.iconst 2, 1) := by decide +kernel
theorem dL_law__1348 : decode cL_law_ 1348 = .ok (.iadd, 1) := by decide +kernel
theorem dL_law__1349 : decode cL_law_ 1349 = .ok (.iaload, 1) := by decide +kernel
theorem dL_law__1350 : decode cL_law_ 1350 = .ok (.aload_n 3, 1) := by decide +kernel
theorem dL_law__1351 : decode cL_law_ 1351 = .ok (.invokestatic 214, 3) := by decide +kernel
theorem dL_law__1354 : decode cL_law_ 1354 = .ok (.istore 5, 2) := by decide +kernel
theorem dL_law__1356 : decode cL_law_ 1356 = .ok (.aload_n 2, 1) := by decide +kernel
theorem dL_law__1357 : decode cL_law_ 1357 = .ok (.aload_n 0, 1) := by decide +kernel
theorem dL_law__1358 : decode cL_law_ 1358 = .ok (.iload 4, 2) := by decide +kernel
theorem dL_law__1360 : decode cL_law_ 1360 = .ok (.iconst 1, 1) := by decide +kernel
theorem dL_law__1361 : decode cL_law_ 1361 = .ok (.iadd, 1) := by decide +kernel
theorem dL_law__1362 : decode cL_law_ 1362 = .ok (.iaload, 1) := by decide +kernel
theorem dL_law__1363 : decode cL_law_ 1363 = .ok (.aload_n 0, 1) := by decide +kernel
theorem dL_law__1364 : decode cL_law_ 1364 = .ok (.iload 4, 2) := by decide +kernel
theorem dL_law__1366 : decode cL_law_ 1366 = .ok (.iconst 2, 1) := by decide +kernel
theorem dL_law__1367 : decode cL_law_ 1367 = .ok (.iadd, 1) := by decide +kernel
theorem dL_law__1368 : decode cL_law_ 1368 = .ok (.iaload, 1) := by decide +kernel
theorem dL_law__1369 : decode cL_law_ 1369 = .ok (.invokevirtual 216, 3) := by decide +kernel
theorem dL_law__1372 : decode cL_law_ 1372 = .ok (.istore 6, 2) := by decide +kernel
theorem dL_law__1374 : decode cL_law_ 1374 = .ok (.aload_n 2, 1) := by decide +kernel
theorem dL_law__1375 : decode cL_law_ 1375 = .ok (.invokevirtual 150, 3) := by decide +kernel
theorem dL_law__1378 : decode cL_law_ 1378 = .ok (.iload 5, 2) := by decide +kernel
theorem dL_law__1380 : decode cL_law_ 1380 = .ok (.if_icmp .eq 5, 3) := by decide +kernel
theorem dL_law__1383 : decode cL_law_ 1383 = .ok (.iconst 0, 1) := by decide +kernel
theorem dL_law__1384 : decode cL_law_ 1384 = .ok (.ireturn, 1) := by decide +kernel
theorem dL_law__1385 : decode cL_law_ 1385 = .ok (.iload 5, 2) := by decide +kernel
theorem dL_law__1387 : decode cL_law_ 1387 = .ok (.ifCond .ne 15, 3) := by decide +kernel
theorem dL_law__1390 : decode cL_law_ 1390 = .ok (.aload_n 3, 1) := by decide +kernel
theorem dL_law__1391 : decode cL_law_ 1391 = .ok (.iconst 0, 1) := by decide +kernel
theorem dL_law__1392 : decode cL_law_ 1392 = .ok (.laload, 1) := by decide +kernel
theorem dL_law__1393 : decode cL_law_ 1393 = .ok (.iload 6, 2) := by decide +kernel
theorem dL_law__1395 : decode cL_law_ 1395 = .ok (.i2l, 1) := by decide +kernel
theorem dL_law__1396 : decode cL_law_ 1396 = .ok (.lcmp, 1) := by decide +kernel
theorem dL_law__1397 : decode cL_law_ 1397 = .ok (.ifCond .eq 5, 3) := by decide +kernel
theorem dL_law__1400 : decode cL_law_ 1400 = .ok (.iconst 0, 1) := by decide +kernel
theorem dL_law__1401 : decode cL_law_ 1401 = .ok (.ireturn, 1) := by decide +kernel
theorem dL_law__1402 : decode cL_law_ 1402 = .ok (.goto 1493, 3) := by decide +kernel
theorem dL_law__1405 : decode cL_law_ 1405 = .ok (.aload_n 1, 1) := by decide +kernel
theorem dL_law__1406 : decode cL_law_ 1406 = .ok (.aload_n 0, 1) := by decide +kernel
theorem dL_law__1407 : decode cL_law_ 1407 = .ok (.iload 4, 2) := by decide +kernel
theorem dL_law__1409 : decode cL_law_ 1409 = .ok (.iconst 1, 1) := by decide +kernel
theorem dL_law__1410 : decode cL_law_ 1410 = .ok (.iadd, 1) := by decide +kernel
theorem dL_law__1411 : decode cL_law_ 1411 = .ok (.iaload, 1) := by decide +kernel
theorem dL_law__1412 : decode cL_law_ 1412 = .ok (.aload_n 0, 1) := by decide +kernel
theorem dL_law__1413 : decode cL_law_ 1413 = .ok (.iload 4, 2) := by decide +kernel
theorem dL_law__1415 : decode cL_law_ 1415 = .ok (.iconst 2, 1) := by decide +kernel
theorem dL_law__1416 : decode cL_law_ 1416 = .ok (.iadd, 1) := by decide +kernel
theorem dL_law__1417 : decode cL_law_ 1417 = .ok (.iaload, 1) := by decide +kernel
theorem dL_law__1418 : decode cL_law_ 1418 = .ok (.aload_n 3, 1) := by decide +kernel
theorem dL_law__1419 : decode cL_law_ 1419 = .ok (.invokestatic 217, 3) := by decide +kernel
theorem dL_law__1422 : decode cL_law_ 1422 = .ok (.istore 5, 2) := by decide +kernel
theorem dL_law__1424 : decode cL_law_ 1424 = .ok (.aload_n 2, 1) := by decide +kernel
theorem dL_law__1425 : decode cL_law_ 1425 = .ok (.aload_n 0, 1) := by decide +kernel
theorem dL_law__1426 : decode cL_law_ 1426 = .ok (.iload 4, 2) := by decide +kernel
theorem dL_law__1428 : decode cL_law_ 1428 = .ok (.iconst 1, 1) := by decide +kernel
theorem dL_law__1429 : decode cL_law_ 1429 = .ok (.iadd, 1) := by decide +kernel
theorem dL_law__1430 : decode cL_law_ 1430 = .ok (.iaload, 1) := by decide +kernel
theorem dL_law__1431 : decode cL_law_ 1431 = .ok (.aload_n 0, 1) := by decide +kernel
theorem dL_law__1432 : decode cL_law_ 1432 = .ok (.iload 4, 2) := by decide +kernel
theorem dL_law__1434 : decode cL_law_ 1434 = .ok (.iconst 2, 1) := by decide +kernel
theorem dL_law__1435 : decode cL_law_ 1435 = .ok (.iadd, 1) := by decide +kernel
theorem dL_law__1436 : decode cL_law_ 1436 = .ok (.iaload, 1) := by decide +kernel
theorem dL_law__1437 : decode cL_law_ 1437 = .ok (.invokevirtual 219, 3) := by decide +kernel
theorem dL_law__1440 : decode cL_law_ 1440 = .ok (.istore 6, 2) := by decide +kernel
theorem dL_law__1442 : decode cL_law_ 1442 = .ok (.aload_n 2, 1) := by decide +kernel
theorem dL_law__1443 : decode cL_law_ 1443 = .ok (.invokevirtual 150, 3) := by decide +kernel
theorem dL_law__1446 : decode cL_law_ 1446 = .ok (.iload 5, 2) := by decide +kernel
theorem dL_law__1448 : decode cL_law_ 1448 = .ok (.if_icmp .eq 5, 3) := by decide +kernel
theorem dL_law__1451 : decode cL_law_ 1451 = .ok (.iconst 0, 1) := by decide +kernel
theorem dL_law__1452 : decode cL_law_ 1452 = .ok (.ireturn, 1) := by decide +kernel
theorem dL_law__1453 : decode cL_law_ 1453 = .ok (.iload 5, 2) := by decide +kernel
theorem dL_law__1455 : decode cL_law_ 1455 = .ok (.ifCond .ne 15, 3) := by decide +kernel
theorem dL_law__1458 : decode cL_law_ 1458 = .ok (.aload_n 3, 1) := by decide +kernel
theorem dL_law__1459 : decode cL_law_ 1459 = .ok (.iconst 0, 1) := by decide +kernel
theorem dL_law__1460 : decode cL_law_ 1460 = .ok (.laload, 1) := by decide +kernel
theorem dL_law__1461 : decode cL_law_ 1461 = .ok (.iload 6, 2) := by decide +kernel
theorem dL_law__1463 : decode cL_law_ 1463 = .ok (.i2l, 1) := by decide +kernel
theorem dL_law__1464 : decode cL_law_ 1464 = .ok (.lcmp, 1) := by decide +kernel
theorem dL_law__1465 : decode cL_law_ 1465 = .ok (.ifCond .eq 5, 3) := by decide +kernel
theorem dL_law__1468 : decode cL_law_ 1468 = .ok (.iconst 0, 1) := by decide +kernel
theorem dL_law__1469 : decode cL_law_ 1469 = .ok (.ireturn, 1) := by decide +kernel
theorem dL_law__1470 : decode cL_law_ 1470 = .ok (.goto 1425, 3) := by decide +kernel
theorem dL_law__1473 : decode cL_law_ 1473 = .ok (.aload_n 1, 1) := by decide +kernel
theorem dL_law__1474 : decode cL_law_ 1474 = .ok (.aload_n 0, 1) := by decide +kernel
theorem dL_law__1475 : decode cL_law_ 1475 = .ok (.iload 4, 2) := by decide +kernel
theorem dL_law__1477 : decode cL_law_ 1477 = .ok (.iconst 1, 1) := by decide +kernel
theorem dL_law__1478 : decode cL_law_ 1478 = .ok (.iadd, 1) := by decide +kernel
theorem dL_law__1479 : decode cL_law_ 1479 = .ok (.iaload, 1) := by decide +kernel
theorem dL_law__1480 : decode cL_law_ 1480 = .ok (.aload_n 0, 1) := by decide +kernel
theorem dL_law__1481 : decode cL_law_ 1481 = .ok (.iload 4, 2) := by decide +kernel
theorem dL_law__1483 : decode cL_law_ 1483 = .ok (.iconst 2, 1) := by decide +kernel
theorem dL_law__1484 : decode cL_law_ 1484 = .ok (.iadd, 1) := by decide +kernel
theorem dL_law__1485 : decode cL_law_ 1485 = .ok (.iaload, 1) := by decide +kernel
theorem dL_law__1486 : decode cL_law_ 1486 = .ok (.aload_n 3, 1) := by decide +kernel
theorem dL_law__1487 : decode cL_law_ 1487 = .ok (.invokestatic 220, 3) := by decide +kernel
theorem dL_law__1490 : decode cL_law_ 1490 = .ok (.istore 5, 2) := by decide +kernel
theorem dL_law__1492 : decode cL_law_ 1492 = .ok (.aload_n 2, 1) := by decide +kernel
theorem dL_law__1493 : decode cL_law_ 1493 = .ok (.aload_n 0, 1) := by decide +kernel
theorem dL_law__1494 : decode cL_law_ 1494 = .ok (.iload 4, 2) := by decide +kernel
theorem dL_law__1496 : decode cL_law_ 1496 = .ok (.iconst 1, 1) := by decide +kernel
theorem dL_law__1497 : decode cL_law_ 1497 = .ok (.iadd, 1) := by decide +kernel
theorem dL_law__1498 : decode cL_law_ 1498 = .ok (.iaload, 1) := by decide +kernel
theorem dL_law__1499 : decode cL_law_ 1499 = .ok (.aload_n 0, 1) := by decide +kernel
theorem dL_law__1500 : decode cL_law_ 1500 = .ok (.iload 4, 2) := by decide +kernel
theorem dL_law__1502 : decode cL_law_ 1502 = .ok (.iconst 2, 1) := by decide +kernel
theorem dL_law__1503 : decode cL_law_ 1503 = .ok (.iadd, 1) := by decide +kernel
theorem dL_law__1504 : decode cL_law_ 1504 = .ok (.iaload, 1) := by decide +kernel
theorem dL_law__1505 : decode cL_law_ 1505 = .ok (.invokevirtual 222, 3) := by decide +kernel
theorem dL_law__1508 : decode cL_law_ 1508 = .ok (.istore 6, 2) := by decide +kernel
theorem dL_law__1510 : decode cL_law_ 1510 = .ok (.aload_n 2, 1) := by decide +kernel
theorem dL_law__1511 : decode cL_law_ 1511 = .ok (.invokevirtual 150, 3) := by decide +kernel
theorem dL_law__1514 : decode cL_law_ 1514 = .ok (.iload 5, 2) := by decide +kernel
theorem dL_law__1516 : decode cL_law_ 1516 = .ok (.if_icmp .eq 5, 3) := by decide +kernel
theorem dL_law__1519 : decode cL_law_ 1519 = .ok (.iconst 0, 1) := by decide +kernel
theorem dL_law__1520 : decode cL_law_ 1520 = .ok (.ireturn, 1) := by decide +kernel
theorem dL_law__1521 : decode cL_law_ 1521 = .ok (.iload 5, 2) := by decide +kernel
theorem dL_law__1523 : decode cL_law_ 1523 = .ok (.ifCond .ne 15, 3) := by decide +kernel
theorem dL_law__1526 : decode cL_law_ 1526 = .ok (.aload_n 3, 1) := by decide +kernel
theorem dL_law__1527 : decode cL_law_ 1527 = .ok (.iconst 0, 1) := by decide +kernel
theorem dL_law__1528 : decode cL_law_ 1528 = .ok (.laload, 1) := by decide +kernel
theorem dL_law__1529 : decode cL_law_ 1529 = .ok (.iload 6, 2) := by decide +kernel
theorem dL_law__1531 : decode cL_law_ 1531 = .ok (.i2l, 1) := by decide +kernel
theorem dL_law__1532 : decode cL_law_ 1532 = .ok (.lcmp, 1) := by decide +kernel
theorem dL_law__1533 : decode cL_law_ 1533 = .ok (.ifCond .eq 5, 3) := by decide +kernel
theorem dL_law__1536 : decode cL_law_ 1536 = .ok (.iconst 0, 1) := by decide +kernel
theorem dL_law__1537 : decode cL_law_ 1537 = .ok (.ireturn, 1) := by decide +kernel
theorem dL_law__1538 : decode cL_law_ 1538 = .ok (.goto 1357, 3) := by decide +kernel
theorem dL_law__1541 : decode cL_law_ 1541 = .ok (.aload_n 1, 1) := by decide +kernel
theorem dL_law__1542 : decode cL_law_ 1542 = .ok (.aload_n 0, 1) := by decide +kernel
theorem dL_law__1543 : decode cL_law_ 1543 = .ok (.iload 4, 2) := by decide +kernel
theorem dL_law__1545 : decode cL_law_ 1545 = .ok (.iconst 1, 1) := by decide +kernel
theorem dL_law__1546 : decode cL_law_ 1546 = .ok (.iadd, 1) := by decide +kernel
theorem dL_law__1547 : decode cL_law_ 1547 = .ok (.iaload, 1) := by decide +kernel
theorem dL_law__1548 : decode cL_law_ 1548 = .ok (.ifCond .eq 7, 3) := by decide +kernel
theorem dL_law__1551 : decode cL_law_ 1551 = .ok (.iconst 1, 1) := by decide +kernel
theorem dL_law__1552 : decode cL_law_ 1552 = .ok (.goto 4, 3) := by decide +kernel
theorem dL_law__1555 : decode cL_law_ 1555 = .ok (.iconst 0, 1) := by decide +kernel
theorem dL_law__1556 : decode cL_law_ 1556 = .ok (.invokevirtual 223, 3) := by decide +kernel
theorem dL_law__1559 : decode cL_law_ 1559 = .ok (.aload_n 2, 1) := by decide +kernel
theorem dL_law__1560 : decode cL_law_ 1560 = .ok (.aload_n 0, 1) := by decide +kernel
theorem dL_law__1561 : decode cL_law_ 1561 = .ok (.iload 4, 2) := by decide +kernel
theorem dL_law__1563 : decode cL_law_ 1563 = .ok (.iconst 1, 1) := by decide +kernel
theorem dL_law__1564 : decode cL_law_ 1564 = .ok (.iadd, 1) := by decide +kernel
theorem dL_law__1565 : decode cL_law_ 1565 = .ok (.iaload, 1) := by decide +kernel
theorem dL_law__1566 : decode cL_law_ 1566 = .ok (.ifCond .eq 7, 3) := by decide +kernel
theorem dL_law__1569 : decode cL_law_ 1569 = .ok (.iconst 1, 1) := by decide +kernel
theorem dL_law__1570 : decode cL_law_ 1570 = .ok (.goto 4, 3) := by decide +kernel
theorem dL_law__1573 : decode cL_law_ 1573 = .ok (.iconst 0, 1) := by decide +kernel
theorem dL_law__1574 : decode cL_law_ 1574 = .ok (.invokevirtual 226, 3) := by decide +kernel
theorem dL_law__1577 : decode cL_law_ 1577 = .ok (.if_icmp .eq 1318, 3) := by decide +kernel
theorem dL_law__1580 : decode cL_law_ 1580 = .ok (.iconst 0, 1) := by decide +kernel
theorem dL_law__1581 : decode cL_law_ 1581 = .ok (.ireturn, 1) := by decide +kernel
theorem dL_law__1582 : decode cL_law_ 1582 = .ok (.aload_n 1, 1) := by decide +kernel
theorem dL_law__1583 : decode cL_law_ 1583 = .ok (.aload_n 0, 1) := by decide +kernel
theorem dL_law__1584 : decode cL_law_ 1584 = .ok (.iload 4, 2) := by decide +kernel
theorem dL_law__1586 : decode cL_law_ 1586 = .ok (.iconst 1, 1) := by decide +kernel
theorem dL_law__1587 : decode cL_law_ 1587 = .ok (.iadd, 1) := by decide +kernel
theorem dL_law__1588 : decode cL_law_ 1588 = .ok (.iaload, 1) := by decide +kernel
theorem dL_law__1589 : decode cL_law_ 1589 = .ok (.aload_n 3, 1) := by decide +kernel
theorem dL_law__1590 : decode cL_law_ 1590 = .ok (.invokestatic 227, 3) := by decide +kernel
theorem dL_law__1593 : decode cL_law_ 1593 = .ok (.istore 5, 2) := by decide +kernel
theorem dL_law__1595 : decode cL_law_ 1595 = .ok (.aload_n 2, 1) := by decide +kernel
theorem dL_law__1596 : decode cL_law_ 1596 = .ok (.aload_n 0, 1) := by decide +kernel
theorem dL_law__1597 : decode cL_law_ 1597 = .ok (.iload 4, 2) := by decide +kernel
theorem dL_law__1599 : decode cL_law_ 1599 = .ok (.iconst 1, 1) := by decide +kernel
theorem dL_law__1600 : decode cL_law_ 1600 = .ok (.iadd, 1) := by decide +kernel
theorem dL_law__1601 : decode cL_law_ 1601 = .ok (.iaload, 1) := by decide +kernel
theorem dL_law__1602 : decode cL_law_ 1602 = .ok (.invokevirtual 229, 3) := by decide +kernel
theorem dL_law__1605 : decode cL_law_ 1605 = .ok (.istore 6, 2) := by decide +kernel
theorem dL_law__1607 : decode cL_law_ 1607 = .ok (.aload_n 2, 1) := by decide +kernel
theorem dL_law__1608 : decode cL_law_ 1608 = .ok (.invokevirtual 150, 3) := by decide +kernel
theorem dL_law__1611 : decode cL_law_ 1611 = .ok (.iload 5, 2) := by decide +kernel
theorem dL_law__1613 : decode cL_law_ 1613 = .ok (.if_icmp .eq 5, 3) := by decide +kernel
theorem dL_law__1616 : decode cL_law_ 1616 = .ok (.iconst 0, 1) := by decide +kernel
theorem dL_law__1617 : decode cL_law_ 1617 = .ok (.ireturn, 1) := by decide +kernel
theorem dL_law__1618 : decode cL_law_ 1618 = .ok (.iload 5, 2) := by decide +kernel
theorem dL_law__1620 : decode cL_law_ 1620 = .ok (.ifCond .ne 15, 3) := by decide +kernel
theorem dL_law__1623 : decode cL_law_ 1623 = .ok (.aload_n 3, 1) := by decide +kernel
theorem dL_law__1624 : decode cL_law_ 1624 = .ok (.iconst 0, 1) := by decide +kernel
theorem dL_law__1625 : decode cL_law_ 1625 = .ok (.laload, 1) := by decide +kernel
theorem dL_law__1626 : decode cL_law_ 1626 = .ok (.iload 6, 2) := by decide +kernel
theorem dL_law__1628 : decode cL_law_ 1628 = .ok (.i2l, 1) := by decide +kernel
theorem dL_law__1629 : decode cL_law_ 1629 = .ok (.lcmp, 1) := by decide +kernel
theorem dL_law__1630 : decode cL_law_ 1630 = .ok (.ifCond .eq 5, 3) := by decide +kernel
theorem dL_law__1633 : decode cL_law_ 1633 = .ok (.iconst 0, 1) := by decide +kernel
theorem dL_law__1634 : decode cL_law_ 1634 = .ok (.ireturn, 1) := by decide +kernel
theorem dL_law__1635 : decode cL_law_ 1635 = .ok (.goto 1260, 3) := by decide +kernel
theorem dL_law__1638 : decode cL_law_ 1638 = .ok (.aload_n 1, 1) := by decide +kernel
theorem dL_law__1639 : decode cL_law_ 1639 = .ok (.invokevirtual 230, 3) := by decide +kernel
theorem dL_law__1642 : decode cL_law_ 1642 = .ok (.aload_n 2, 1) := by decide +kernel
theorem dL_law__1643 : decode cL_law_ 1643 = .ok (.invokevirtual 233, 3) := by decide +kernel
theorem dL_law__1646 : decode cL_law_ 1646 = .ok (.if_icmp .eq 1249, 3) := by decide +kernel
theorem dL_law__1649 : decode cL_law_ 1649 = .ok (.iconst 0, 1) := by decide +kernel
theorem dL_law__1650 : decode cL_law_ 1650 = .ok (.ireturn, 1) := by decide +kernel
theorem dL_law__1651 : decode cL_law_ 1651 = .ok (.aload_n 1, 1) := by decide +kernel
theorem dL_law__1652 : decode cL_law_ 1652 = .ok (.invokevirtual 234, 3) := by decide +kernel
theorem dL_law__1655 : decode cL_law_ 1655 = .ok (.aload_n 2, 1) := by decide +kernel
theorem dL_law__1656 : decode cL_law_ 1656 = .ok (.invokevirtual 237, 3) := by decide +kernel
theorem dL_law__1659 : decode cL_law_ 1659 = .ok (.if_icmp .eq 1236, 3) := by decide +kernel
theorem dL_law__1662 : decode cL_law_ 1662 = .ok (.iconst 0, 1) := by decide +kernel
theorem dL_law__1663 : decode cL_law_ 1663 = .ok (.ireturn, 1) := by decide +kernel
theorem dL_law__1664 : decode cL_law_ 1664 = .ok (.aload_n 1, 1) := by decide +kernel
theorem dL_law__1665 : decode cL_law_ 1665 = .ok (.aload_n 0, 1) := by decide +kernel
theorem dL_law__1666 : decode cL_law_ 1666 = .ok (.iload 4, 2) := by decide +kernel
theorem dL_law__1668 : decode cL_law_ 1668 = .ok (.iconst 1, 1) := by decide +kernel
theorem dL_law__1669 : decode cL_law_ 1669 = .ok (.iadd, 1) := by decide +kernel
theorem dL_law__1670 : decode cL_law_ 1670 = .ok (.iaload, 1) := by decide +kernel
theorem dL_law__1671 : decode cL_law_ 1671 = .ok (.aload_n 0, 1) := by decide +kernel
theorem dL_law__1672 : decode cL_law_ 1672 = .ok (.iload 4, 2) := by decide +kernel
theorem dL_law__1674 : decode cL_law_ 1674 = .ok (.iconst 2, 1) := by decide +kernel
theorem dL_law__1675 : decode cL_law_ 1675 = .ok (.iadd, 1) := by decide +kernel
theorem dL_law__1676 : decode cL_law_ 1676 = .ok (.iaload, 1) := by decide +kernel
theorem dL_law__1677 : decode cL_law_ 1677 = .ok (.aload_n 3, 1) := by decide +kernel
theorem dL_law__1678 : decode cL_law_ 1678 = .ok (.invokestatic 238, 3) := by decide +kernel
theorem dL_law__1681 : decode cL_law_ 1681 = .ok (.istore 5, 2) := by decide +kernel
theorem dL_law__1683 : decode cL_law_ 1683 = .ok (.aload_n 2, 1) := by decide +kernel
theorem dL_law__1684 : decode cL_law_ 1684 = .ok (.aload_n 0, 1) := by decide +kernel
theorem dL_law__1685 : decode cL_law_ 1685 = .ok (.iload 4, 2) := by decide +kernel
theorem dL_law__1687 : decode cL_law_ 1687 = .ok (.iconst 1, 1) := by decide +kernel
theorem dL_law__1688 : decode cL_law_ 1688 = .ok (.iadd, 1) := by decide +kernel
theorem dL_law__1689 : decode cL_law_ 1689 = .ok (.iaload, 1) := by decide +kernel
theorem dL_law__1690 : decode cL_law_ 1690 = .ok (.aload_n 0, 1) := by decide +kernel
theorem dL_law__1691 : decode cL_law_ 1691 = .ok (.iload 4, 2) := by decide +kernel
theorem dL_law__1693 : decode cL_law_ 1693 = .ok (.iconst 2, 1) := by decide +kernel
theorem dL_law__1694 : decode cL_law_ 1694 = .ok (.iadd, 1) := by decide +kernel
theorem dL_law__1695 : decode cL_law_ 1695 = .ok (.iaload, 1) := by decide +kernel
theorem dL_law__1696 : decode cL_law_ 1696 = .ok (.invokevirtual 240, 3) := by decide +kernel
theorem dL_law__1699 : decode cL_law_ 1699 = .ok (.istore 6, 2) := by decide +kernel
theorem dL_law__1701 : decode cL_law_ 1701 = .ok (.aload_n 2, 1) := by decide +kernel
theorem dL_law__1702 : decode cL_law_ 1702 = .ok (.invokevirtual 150, 3) := by decide +kernel
theorem dL_law__1705 : decode cL_law_ 1705 = .ok (.iload 5, 2) := by decide +kernel
theorem dL_law__1707 : decode cL_law_ 1707 = .ok (.if_icmp .eq 5, 3) := by decide +kernel
theorem dL_law__1710 : decode cL_law_ 1710 = .ok (.iconst 0, 1) := by decide +kernel
theorem dL_law__1711 : decode cL_law_ 1711 = .ok (.ireturn, 1) := by decide +kernel
theorem dL_law__1712 : decode cL_law_ 1712 = .ok (.iload 5, 2) := by decide +kernel
theorem dL_law__1714 : decode cL_law_ 1714 = .ok (.ifCond .ne 15, 3) := by decide +kernel
theorem dL_law__1717 : decode cL_law_ 1717 = .ok (.aload_n 3, 1) := by decide +kernel
theorem dL_law__1718 : decode cL_law_ 1718 = .ok (.iconst 0, 1) := by decide +kernel
theorem dL_law__1719 : decode cL_law_ 1719 = .ok (.laload, 1) := by decide +kernel
theorem dL_law__1720 : decode cL_law_ 1720 = .ok (.iload 6, 2) := by decide +kernel
theorem dL_law__1722 : decode cL_law_ 1722 = .ok (.i2l, 1) := by decide +kernel
